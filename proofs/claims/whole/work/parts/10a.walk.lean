section
variable {Γ : Zg} {p : Program} {l : Launch} {e : Env} {s : State} {m : MethodId} {args : Array Value} {below : List Frame} {meth : Method} {c : Code}
set_option maxHeartbeats 4000000 in
set_option maxRecDepth 100000 in
theorem f_X10_holds (l : Launch) {Γ : Zg} {M : Zm} {l0 : Int32} {l1 : Int32}  : z_Fn l Γ yX10_holds cX10_holds 2 (some .boolean) 0 0 [.int l0, .int l1] M (some (.int (X10_holds l0 l1))) M := by
  generalize hf : X10_holds l0 l1 = r
  refine z_Fn.of (by decide) (Nat.le_of_ble_eq_true rfl) ?_
  intro p e s m below meth c ls B hW hl
  have B : z_Bd Γ p s m _ meth c cX10_holds 2 (some .boolean) RX10 := B
  have hl : lv_has ls 2 [(0, .int l0), (1, .int l1)] := hl
  rw [X10_holds] at hf
  have hx := B.1
  have hb := B.2.1
  have hml := B.2.2.1
  have ho := B.2.2.2.1
  have hw := B.2.2.2.2.1
  have hE := B.2.2.2.2.2.1.2.2
  have hg := B.2.2.2.2.2.2.1
  refine lv_iload_n hx hb dX10_holds_0 rfl (lv_at hl 0 rfl) ?_
  refine lv_iload_n hx hb dX10_holds_1 rfl (lv_at hl 1 rfl) ?_
  refine lv_ishr hx hb dX10_holds_2 ?_
  refine lv_iconst (v := 1) hx hb dX10_holds_3 (by decide) ?_
  refine lv_iand hx hb dX10_holds_4 ?_
  refine lv_if_eq (tgt := 12) hx hb dX10_holds_5 (by decide) (fun c1 => ?_) (fun c1 => ?_)
  · have hf := z_it c1 hf
    refine lv_iconst (v := 0) hx hb dX10_holds_12 (by decide) ?_
    subst hf
    exact z_rz B hW (Or.inl rfl) dX10_holds_13
  · have hf := z_if c1 hf
    refine lv_iconst (v := 1) hx hb dX10_holds_8 (by decide) ?_
    refine lv_goto (tgt := 13) hx hb dX10_holds_9 (by decide) ?_
    subst hf
    exact z_rz B hW (Or.inr rfl) dX10_holds_13
set_option maxHeartbeats 4000000 in
set_option maxRecDepth 100000 in
theorem w_X10_greatest_P3 (B : z_Bd Γ p s m args meth c cX10_greatest 2 (some .int) RX10) : ∀ (n : Nat) (M : Zm) (l0 : Int32) (l1 : Int32) (r : Int32), X10_greatest_P3 n l0 l1 = some r → ∀ (H : Heap) (locs : List Loc) (ls : Array Slot), z_Wd Γ M s.heap H locs → lv_has ls 2 [(0, .int l0), (1, .int l1)] → W p l e (z_rm 1 21) s m args below meth c H locs 0 0 (z_Q Γ below args s (some (.int r)) M) (F0 m 3 ls []) := by
  have hx := B.1
  have hb := B.2.1
  have hml := B.2.2.1
  have ho := B.2.2.2.1
  have hw := B.2.2.2.2.1
  have hE := B.2.2.2.2.2.1.2.2
  have hg := B.2.2.2.2.2.2.1
  intro n
  induction n with
  | zero =>
    intro M l0 l1 r hf  H locs ls hW hl
    cases hf
  | succ n ih =>
    intro M l0 l1 r hf  H locs ls hW hl
    rw [X10_greatest_P3] at hf
    refine lv_iload_n hx hb dX10_greatest_3 rfl (lv_at hl 1 rfl) ?_
    refine lv_if_lt (tgt := 23) hx hb dX10_greatest_4 (by decide) (fun c1 => ?_) (fun c1 => ?_)
    · have hf := z_it c1 hf
      refine lv_iconst (v := -1) hx hb dX10_greatest_23 (by decide) ?_
      have hf := Option.some.inj hf
      subst hf
      exact z_ri B hW dX10_greatest_24
    · have hf := z_if c1 hf
      refine lv_iload_n hx hb dX10_greatest_7 rfl (lv_at hl 0 rfl) ?_
      refine lv_iload_n hx hb dX10_greatest_8 rfl (lv_at hl 1 rfl) ?_
      refine z_cS (As := [.int l0, .int l1]) (rest := []) B hW (f_X10_holds l) sc_X10_holds ⟨q355, q356⟩ ⟨Nat.le_of_ble_eq_true rfl, Nat.le_of_ble_eq_true rfl⟩ ⟨Nat.zero_le _, Nat.zero_le _⟩ rfl hl.1 rfl (Nat.le_of_ble_eq_true rfl) dX10_greatest_9 (fun H locs hW => ?_)
      refine lv_if_eq (tgt := 17) hx hb dX10_greatest_12 (by decide) (fun c4 => ?_) (fun c4 => ?_)
      · have hf := z_it c4 hf
        refine lv_iinc (v := l1 + (-1 : Int32)) (lv' := [(1, .int (l1 + (-1 : Int32))), (0, .int l0)]) hx hb dX10_greatest_17 hl (k := 1) rfl rfl (by decide) rfl (fun ls hl => ?_)
        refine lv_goto (tgt := 3) hx hb dX10_greatest_20 (by decide) ?_
        exact ih M l0 (l1 + (-1 : Int32)) _ hf  _ _ _ hW (lv_sub hl [1, 0] rfl)
      · have hf := z_if c4 hf
        refine lv_iload_n hx hb dX10_greatest_15 rfl (lv_at hl 1 rfl) ?_
        have hf := Option.some.inj hf
        subst hf
        exact z_ri B hW dX10_greatest_16
set_option maxHeartbeats 4000000 in
set_option maxRecDepth 100000 in
theorem f_X10_greatest (l : Launch) {Γ : Zg} {M : Zm} {l0 : Int32} {r : Int32} (hf : X10_greatest l0 = some r)  : z_Fn l Γ yX10_greatest cX10_greatest 2 (some .int) 1 21 [.int l0] M (some (.int r)) M := by
  refine z_Fn.of (by decide) (Nat.le_of_ble_eq_true rfl) ?_
  intro p e s m below meth c ls B hW hl
  have B : z_Bd Γ p s m _ meth c cX10_greatest 2 (some .int) RX10 := B
  have hl : lv_has ls 2 [(0, .int l0)] := hl
  rw [X10_greatest] at hf
  have hx := B.1
  have hb := B.2.1
  have hml := B.2.2.1
  have ho := B.2.2.2.1
  have hw := B.2.2.2.2.1
  have hE := B.2.2.2.2.2.1.2.2
  have hg := B.2.2.2.2.2.2.1
  refine lv_bipush (v := 9) hx hb dX10_greatest_0 (by decide) ?_
  refine lv_istore_n (lv' := [(1, .int (9 : Int32)), (0, .int l0)]) hx hb dX10_greatest_2 rfl hl (by decide) rfl (fun ls hl => ?_)
  exact w_X10_greatest_P3 B 1000 M l0 (9 : Int32) _ hf  _ _ _ hW (lv_sub hl [1, 0] rfl)
set_option maxHeartbeats 4000000 in
set_option maxRecDepth 100000 in
theorem f_X0_says (l : Launch) {Γ : Zg} {M : Zm} {l0 : Nat} {l1 : Nat} {l2 : Int32} {l3 : Int32} {r : Int32} (hf : X0_says M l0 l1 l2 l3 = some r) (h1 : z_Is Γ 8 l1) : z_Fn l Γ yX0_says cX0_says 4 (some .int) 2 42 [.ref l0, .ref l1, .int l2, .int l3] M (some (.int r)) M := by
  refine z_Fn.of (by decide) (Nat.le_of_ble_eq_true rfl) ?_
  intro p e s m below meth c ls B hW hl
  have B : z_Bd Γ p s m _ meth c cX0_says 4 (some .int) RX0 := B
  have hl : lv_has ls 4 [(0, .ref l0), (1, .ref l1), (2, .int l2), (3, .int l3)] := hl
  rw [X0_says] at hf
  have hx := B.1
  have hb := B.2.1
  have hml := B.2.2.1
  have ho := B.2.2.2.1
  have hw := B.2.2.2.2.1
  have hE := B.2.2.2.2.2.1.2.2
  have hg := B.2.2.2.2.2.2.1
  refine lv_aload_n hx hb dX0_says_0 rfl (lv_at hl 1 rfl) ?_
  refine z_getN_8_1 B hW h1 q152 dX0_says_1 ?_
  obtain ⟨r1, e2, hf⟩ := z_bd hf
  refine z_cSN (As := [.int (M.1 l1 1)]) (rest := []) B hW (f_X10_greatest l e2) sc_X10_greatest ⟨q352, q353⟩ ⟨Nat.le_of_ble_eq_true rfl, Nat.le_of_ble_eq_true rfl⟩ ⟨Nat.zero_le _, Nat.zero_le _⟩ rfl hl.1 rfl (Nat.le_of_ble_eq_true rfl) dX0_says_4 (fun H locs hW => ?_)
  have hf := Option.some.inj hf
  subst hf
  exact z_ri B hW dX0_says_7
set_option maxHeartbeats 4000000 in
set_option maxRecDepth 100000 in
theorem f_X0_believes (l : Launch) {Γ : Zg} {M : Zm} {l0 : Nat} {l1 : Int32} {l2 : Int32}  : z_Fn l Γ yX0_believes cX0_believes 3 (some .boolean) 0 0 [.ref l0, .int l1, .int l2] M (some (.int (X0_believes l0 l1 l2))) M := by
  generalize hf : X0_believes l0 l1 l2 = r
  refine z_Fn.of (by decide) (Nat.le_of_ble_eq_true rfl) ?_
  intro p e s m below meth c ls B hW hl
  have B : z_Bd Γ p s m _ meth c cX0_believes 3 (some .boolean) RX0 := B
  have hl : lv_has ls 3 [(0, .ref l0), (1, .int l1), (2, .int l2)] := hl
  rw [X0_believes] at hf
  have hx := B.1
  have hb := B.2.1
  have hml := B.2.2.1
  have ho := B.2.2.2.1
  have hw := B.2.2.2.2.1
  have hE := B.2.2.2.2.2.1.2.2
  have hg := B.2.2.2.2.2.2.1
  refine lv_iconst (v := 1) hx hb dX0_believes_0 (by decide) ?_
  subst hf
  exact z_rz B hW (Or.inr rfl) dX0_believes_1
set_option maxHeartbeats 4000000 in
set_option maxRecDepth 100000 in
theorem f_X4_stays (l : Launch) {Γ : Zg} {M : Zm} {l0 : Nat} {l1 : Nat} (h1 : z_Is Γ 8 l1) : z_Fn l Γ yX4_stays cX4_stays 2 (some .int) 0 0 [.ref l0, .ref l1] M (some (.int (X4_stays l0 l1))) M := by
  generalize hf : X4_stays l0 l1 = r
  refine z_Fn.of (by decide) (Nat.le_of_ble_eq_true rfl) ?_
  intro p e s m below meth c ls B hW hl
  have B : z_Bd Γ p s m _ meth c cX4_stays 2 (some .int) RX4 := B
  have hl : lv_has ls 2 [(0, .ref l0), (1, .ref l1)] := hl
  rw [X4_stays] at hf
  have hx := B.1
  have hb := B.2.1
  have hml := B.2.2.1
  have ho := B.2.2.2.1
  have hw := B.2.2.2.2.1
  have hE := B.2.2.2.2.2.1.2.2
  have hg := B.2.2.2.2.2.2.1
  refine lv_iconst (v := 3) hx hb dX4_stays_0 (by decide) ?_
  subst hf
  exact z_ri B hW dX4_stays_1
set_option maxHeartbeats 4000000 in
set_option maxRecDepth 100000 in
theorem f_X0_stays (l : Launch) {Γ : Zg} {M : Zm} {l0 : Nat} {l1 : Nat} (h0 : z_Is Γ 0 l0 ∨ z_Is Γ 2 l0) (h1 : z_Is Γ 8 l1) : z_Fn l Γ yX0_stays cX0_stays 2 (some .int) 1 21 [.ref l0, .ref l1] M (some (.int (X0_stays l0 l1))) M := by
  generalize hf : X0_stays l0 l1 = r
  refine z_Fn.of (by decide) (Nat.le_of_ble_eq_true rfl) ?_
  intro p e s m below meth c ls B hW hl
  have B : z_Bd Γ p s m _ meth c cX0_stays 2 (some .int) RX0 := B
  have hl : lv_has ls 2 [(0, .ref l0), (1, .ref l1)] := hl
  rw [X0_stays] at hf
  have hx := B.1
  have hb := B.2.1
  have hml := B.2.2.1
  have ho := B.2.2.2.1
  have hw := B.2.2.2.2.1
  have hE := B.2.2.2.2.2.1.2.2
  have hg := B.2.2.2.2.2.2.1
  refine lv_aload_n hx hb dX0_stays_0 rfl (lv_at hl 0 rfl) ?_
  refine lv_aload_n hx hb dX0_stays_1 rfl (lv_at hl 1 rfl) ?_
  rcases h0 with p1 | p1
  · refine z_cSU (As := [.ref l1]) (rest := []) B hW (f_X4_stays l h1) sc_X4_stays ss_X0_19 (sk_0) p1 ⟨Nat.le_of_ble_eq_true rfl, Nat.le_of_ble_eq_true rfl⟩ ⟨Nat.zero_le _, Nat.zero_le _⟩ rfl hl.1 rfl (Nat.le_of_ble_eq_true rfl) dX0_stays_2 (fun H locs hW => ?_)
    refine lv_iconst (v := 1) hx hb dX0_stays_5 (by decide) ?_
    refine lv_iadd hx hb dX0_stays_6 ?_
    subst hf
    exact z_ri B hW dX0_stays_7
  · refine z_cSU (As := [.ref l1]) (rest := []) B hW (f_X4_stays l h1) sc_X4_stays ss_X0_19 (sk_2) p1 ⟨Nat.le_of_ble_eq_true rfl, Nat.le_of_ble_eq_true rfl⟩ ⟨Nat.zero_le _, Nat.zero_le _⟩ rfl hl.1 rfl (Nat.le_of_ble_eq_true rfl) dX0_stays_2 (fun H locs hW => ?_)
    refine lv_iconst (v := 1) hx hb dX0_stays_5 (by decide) ?_
    refine lv_iadd hx hb dX0_stays_6 ?_
    subst hf
    exact z_ri B hW dX0_stays_7
set_option maxHeartbeats 4000000 in
set_option maxRecDepth 100000 in
theorem w_X10_least_P2 (B : z_Bd Γ p s m args meth c cX10_least 2 (some .int) RX10) : ∀ (n : Nat) (M : Zm) (l0 : Int32) (l1 : Int32) (r : Int32), X10_least_P2 n l0 l1 = some r → ∀ (H : Heap) (locs : List Loc) (ls : Array Slot), z_Wd Γ M s.heap H locs → lv_has ls 2 [(0, .int l0), (1, .int l1)] → W p l e (z_rm 1 21) s m args below meth c H locs 0 0 (z_Q Γ below args s (some (.int r)) M) (F0 m 2 ls []) := by
  have hx := B.1
  have hb := B.2.1
  have hml := B.2.2.1
  have ho := B.2.2.2.1
  have hw := B.2.2.2.2.1
  have hE := B.2.2.2.2.2.1.2.2
  have hg := B.2.2.2.2.2.2.1
  intro n
  induction n with
  | zero =>
    intro M l0 l1 r hf  H locs ls hW hl
    cases hf
  | succ n ih =>
    intro M l0 l1 r hf  H locs ls hW hl
    rw [X10_least_P2] at hf
    refine lv_iload_n hx hb dX10_least_2 rfl (lv_at hl 1 rfl) ?_
    refine lv_bipush (v := 10) hx hb dX10_least_3 (by decide) ?_
    refine lv_icmp_ge (tgt := 24) hx hb dX10_least_5 (by decide) (fun c1 => ?_) (fun c1 => ?_)
    · have hf := z_it c1 hf
      refine lv_iconst (v := -1) hx hb dX10_least_24 (by decide) ?_
      have hf := Option.some.inj hf
      subst hf
      exact z_ri B hW dX10_least_25
    · have hf := z_if c1 hf
      refine lv_iload_n hx hb dX10_least_8 rfl (lv_at hl 0 rfl) ?_
      refine lv_iload_n hx hb dX10_least_9 rfl (lv_at hl 1 rfl) ?_
      refine z_cS (As := [.int l0, .int l1]) (rest := []) B hW (f_X10_holds l) sc_X10_holds ⟨q355, q356⟩ ⟨Nat.le_of_ble_eq_true rfl, Nat.le_of_ble_eq_true rfl⟩ ⟨Nat.zero_le _, Nat.zero_le _⟩ rfl hl.1 rfl (Nat.le_of_ble_eq_true rfl) dX10_least_10 (fun H locs hW => ?_)
      refine lv_if_eq (tgt := 18) hx hb dX10_least_13 (by decide) (fun c4 => ?_) (fun c4 => ?_)
      · have hf := z_it c4 hf
        refine lv_iinc (v := l1 + (1 : Int32)) (lv' := [(1, .int (l1 + (1 : Int32))), (0, .int l0)]) hx hb dX10_least_18 hl (k := 1) rfl rfl (by decide) rfl (fun ls hl => ?_)
        refine lv_goto (tgt := 2) hx hb dX10_least_21 (by decide) ?_
        exact ih M l0 (l1 + (1 : Int32)) _ hf  _ _ _ hW (lv_sub hl [1, 0] rfl)
      · have hf := z_if c4 hf
        refine lv_iload_n hx hb dX10_least_16 rfl (lv_at hl 1 rfl) ?_
        have hf := Option.some.inj hf
        subst hf
        exact z_ri B hW dX10_least_17
set_option maxHeartbeats 4000000 in
set_option maxRecDepth 100000 in
theorem f_X10_least (l : Launch) {Γ : Zg} {M : Zm} {l0 : Int32} {r : Int32} (hf : X10_least l0 = some r)  : z_Fn l Γ yX10_least cX10_least 2 (some .int) 1 21 [.int l0] M (some (.int r)) M := by
  refine z_Fn.of (by decide) (Nat.le_of_ble_eq_true rfl) ?_
  intro p e s m below meth c ls B hW hl
  have B : z_Bd Γ p s m _ meth c cX10_least 2 (some .int) RX10 := B
  have hl : lv_has ls 2 [(0, .int l0)] := hl
  rw [X10_least] at hf
  have hx := B.1
  have hb := B.2.1
  have hml := B.2.2.1
  have ho := B.2.2.2.1
  have hw := B.2.2.2.2.1
  have hE := B.2.2.2.2.2.1.2.2
  have hg := B.2.2.2.2.2.2.1
  refine lv_iconst (v := 0) hx hb dX10_least_0 (by decide) ?_
  refine lv_istore_n (lv' := [(1, .int (0 : Int32)), (0, .int l0)]) hx hb dX10_least_1 rfl hl (by decide) rfl (fun ls hl => ?_)
  exact w_X10_least_P2 B 1000 M l0 (0 : Int32) _ hf  _ _ _ hW (lv_sub hl [1, 0] rfl)
set_option maxHeartbeats 4000000 in
set_option maxRecDepth 100000 in
theorem f_X4_saysAsPerson (l : Launch) {Γ : Zg} {M : Zm} {l0 : Nat} {l1 : Nat} {r : Int32} (hf : X4_saysAsPerson M l0 l1 = some r) (h1 : z_Is Γ 8 l1) : z_Fn l Γ yX4_saysAsPerson cX4_saysAsPerson 2 (some .int) 2 42 [.ref l0, .ref l1] M (some (.int r)) M := by
  refine z_Fn.of (by decide) (Nat.le_of_ble_eq_true rfl) ?_
  intro p e s m below meth c ls B hW hl
  have B : z_Bd Γ p s m _ meth c cX4_saysAsPerson 2 (some .int) RX4 := B
  have hl : lv_has ls 2 [(0, .ref l0), (1, .ref l1)] := hl
  rw [X4_saysAsPerson] at hf
  have hx := B.1
  have hb := B.2.1
  have hml := B.2.2.1
  have ho := B.2.2.2.1
  have hw := B.2.2.2.2.1
  have hE := B.2.2.2.2.2.1.2.2
  have hg := B.2.2.2.2.2.2.1
  refine lv_aload_n hx hb dX4_saysAsPerson_0 rfl (lv_at hl 1 rfl) ?_
  refine z_getN_8_2 B hW h1 q160 dX4_saysAsPerson_1 ?_
  refine lv_if_eq (tgt := 14) hx hb dX4_saysAsPerson_4 (by decide) (fun c1 => ?_) (fun c1 => ?_)
  · have hf := z_it c1 hf
    refine lv_aload_n hx hb dX4_saysAsPerson_14 rfl (lv_at hl 1 rfl) ?_
    refine z_getN_8_1 B hW h1 q155 dX4_saysAsPerson_15 ?_
    obtain ⟨r2, e3, hf⟩ := z_bd hf
    refine z_cSN (As := [.int (M.1 l1 1)]) (rest := []) B hW (f_X10_least l e3) sc_X10_least ⟨q370, q362⟩ ⟨Nat.le_of_ble_eq_true rfl, Nat.le_of_ble_eq_true rfl⟩ ⟨Nat.zero_le _, Nat.zero_le _⟩ rfl hl.1 rfl (Nat.le_of_ble_eq_true rfl) dX4_saysAsPerson_18 (fun H locs hW => ?_)
    have hf := Option.some.inj hf
    subst hf
    exact z_ri B hW dX4_saysAsPerson_21
  · have hf := z_if c1 hf
    refine lv_aload_n hx hb dX4_saysAsPerson_7 rfl (lv_at hl 1 rfl) ?_
    refine z_getN_8_2 B hW h1 q160 dX4_saysAsPerson_8 ?_
    refine lv_goto (tgt := 18) hx hb dX4_saysAsPerson_11 (by decide) ?_
    obtain ⟨r4, e5, hf⟩ := z_bd hf
    refine z_cSN (As := [.int (M.1 l1 2)]) (rest := []) B hW (f_X10_least l e5) sc_X10_least ⟨q370, q362⟩ ⟨Nat.le_of_ble_eq_true rfl, Nat.le_of_ble_eq_true rfl⟩ ⟨Nat.zero_le _, Nat.zero_le _⟩ rfl hl.1 rfl (Nat.le_of_ble_eq_true rfl) dX4_saysAsPerson_18 (fun H locs hW => ?_)
    have hf := Option.some.inj hf
    subst hf
    exact z_ri B hW dX4_saysAsPerson_21
set_option maxHeartbeats 4000000 in
set_option maxRecDepth 100000 in
theorem f_X1_says (l : Launch) {Γ : Zg} {M : Zm} {l0 : Nat} {l1 : Nat} {l2 : Int32} {l3 : Int32} {r : Int32} (hf : X1_says M l0 l1 l2 l3 = some r) (h0 : z_Is Γ 1 l0) (h1 : z_Is Γ 8 l1) : z_Fn l Γ yX1_says cX1_says 4 (some .int) 3 63 [.ref l0, .ref l1, .int l2, .int l3] M (some (.int r)) M := by
  refine z_Fn.of (by decide) (Nat.le_of_ble_eq_true rfl) ?_
  intro p e s m below meth c ls B hW hl
  have B : z_Bd Γ p s m _ meth c cX1_says 4 (some .int) RX1 := B
  have hl : lv_has ls 4 [(0, .ref l0), (1, .ref l1), (2, .int l2), (3, .int l3)] := hl
  rw [X1_says] at hf
  have hx := B.1
  have hb := B.2.1
  have hml := B.2.2.1
  have ho := B.2.2.2.1
  have hw := B.2.2.2.2.1
  have hE := B.2.2.2.2.2.1.2.2
  have hg := B.2.2.2.2.2.2.1
  refine lv_iload_n hx hb dX1_says_0 rfl (lv_at hl 2 rfl) ?_
  refine lv_if_eq (tgt := 11) hx hb dX1_says_1 (by decide) (fun c1 => ?_) (fun c1 => ?_)
  · have hf := z_it c1 hf
    refine lv_aload_n hx hb dX1_says_11 rfl (lv_at hl 0 rfl) ?_
    refine lv_aload_n hx hb dX1_says_12 rfl (lv_at hl 1 rfl) ?_
    obtain ⟨r2, e3, hf⟩ := z_bd hf
    refine z_cU (As := [.ref l1]) (rest := []) B hW (f_X4_saysAsPerson l e3 h1) sc_X4_saysAsPerson su_X1_13_1 h0 ⟨Nat.le_of_ble_eq_true rfl, Nat.le_of_ble_eq_true rfl⟩ ⟨Nat.zero_le _, Nat.zero_le _⟩ rfl hl.1 rfl (Nat.le_of_ble_eq_true rfl) dX1_says_13 (fun H locs hW => ?_)
    have hf := Option.some.inj hf
    subst hf
    exact z_ri B hW dX1_says_16
  · have hf := z_if c1 hf
    refine lv_iload_n hx hb dX1_says_4 rfl (lv_at hl 2 rfl) ?_
    obtain ⟨r4, e5, hf⟩ := z_bd hf
    refine z_cSN (As := [.int l2]) (rest := []) B hW (f_X10_least l e5) sc_X10_least ⟨q361, q362⟩ ⟨Nat.le_of_ble_eq_true rfl, Nat.le_of_ble_eq_true rfl⟩ ⟨Nat.zero_le _, Nat.zero_le _⟩ rfl hl.1 rfl (Nat.le_of_ble_eq_true rfl) dX1_says_5 (fun H locs hW => ?_)
    refine lv_goto (tgt := 16) hx hb dX1_says_8 (by decide) ?_
    have hf := Option.some.inj hf
    subst hf
    exact z_ri B hW dX1_says_16
set_option maxHeartbeats 4000000 in
set_option maxRecDepth 100000 in
theorem f_X1_believes (l : Launch) {Γ : Zg} {M : Zm} {l0 : Nat} {l1 : Int32} {l2 : Int32}  : z_Fn l Γ yX1_believes cX1_believes 3 (some .boolean) 0 0 [.ref l0, .int l1, .int l2] M (some (.int (X1_believes l0 l1 l2))) M := by
  generalize hf : X1_believes l0 l1 l2 = r
  refine z_Fn.of (by decide) (Nat.le_of_ble_eq_true rfl) ?_
  intro p e s m below meth c ls B hW hl
  have B : z_Bd Γ p s m _ meth c cX1_believes 3 (some .boolean) RX1 := B
  have hl : lv_has ls 3 [(0, .ref l0), (1, .int l1), (2, .int l2)] := hl
  rw [X1_believes] at hf
  have hx := B.1
  have hb := B.2.1
  have hml := B.2.2.1
  have ho := B.2.2.2.1
  have hw := B.2.2.2.2.1
  have hE := B.2.2.2.2.2.1.2.2
  have hg := B.2.2.2.2.2.2.1
  refine lv_iload_n hx hb dX1_believes_0 rfl (lv_at hl 1 rfl) ?_
  refine lv_if_ne (tgt := 8) hx hb dX1_believes_1 (by decide) (fun c1 => ?_) (fun c1 => ?_)
  · have hf := z_if c1 hf
    refine lv_iconst (v := 0) hx hb dX1_believes_8 (by decide) ?_
    subst hf
    exact z_rz B hW (Or.inl rfl) dX1_believes_9
  · have hf := z_it c1 hf
    refine lv_iconst (v := 1) hx hb dX1_believes_4 (by decide) ?_
    refine lv_goto (tgt := 9) hx hb dX1_believes_5 (by decide) ?_
    subst hf
    exact z_rz B hW (Or.inr rfl) dX1_believes_9
set_option maxHeartbeats 4000000 in
set_option maxRecDepth 100000 in
theorem f_X1_stays (l : Launch) {Γ : Zg} {M : Zm} {l0 : Nat} {l1 : Nat} (h1 : z_Is Γ 8 l1) : z_Fn l Γ yX1_stays cX1_stays 2 (some .int) 0 0 [.ref l0, .ref l1] M (some (.int (X1_stays l0 l1))) M := by
  generalize hf : X1_stays l0 l1 = r
  refine z_Fn.of (by decide) (Nat.le_of_ble_eq_true rfl) ?_
  intro p e s m below meth c ls B hW hl
  have B : z_Bd Γ p s m _ meth c cX1_stays 2 (some .int) RX1 := B
  have hl : lv_has ls 2 [(0, .ref l0), (1, .ref l1)] := hl
  rw [X1_stays] at hf
  have hx := B.1
  have hb := B.2.1
  have hml := B.2.2.1
  have ho := B.2.2.2.1
  have hw := B.2.2.2.2.1
  have hE := B.2.2.2.2.2.1.2.2
  have hg := B.2.2.2.2.2.2.1
  refine lv_bipush (v := 9) hx hb dX1_stays_0 (by decide) ?_
  subst hf
  exact z_ri B hW dX1_stays_2
set_option maxHeartbeats 4000000 in
set_option maxRecDepth 100000 in
theorem f_X2_says (l : Launch) {Γ : Zg} {M : Zm} {l0 : Nat} {l1 : Nat} {l2 : Int32} {l3 : Int32} {r : Int32} (hf : X2_says M l0 l1 l2 l3 = some r) (h0 : z_Is Γ 2 l0) (h1 : z_Is Γ 8 l1) : z_Fn l Γ yX2_says cX2_says 4 (some .int) 3 65 [.ref l0, .ref l1, .int l2, .int l3] M (some (.int r)) M := by
  refine z_Fn.of (by decide) (Nat.le_of_ble_eq_true rfl) ?_
  intro p e s m below meth c ls B hW hl
  have B : z_Bd Γ p s m _ meth c cX2_says 4 (some .int) RX2 := B
  have hl : lv_has ls 4 [(0, .ref l0), (1, .ref l1), (2, .int l2), (3, .int l3)] := hl
  rw [X2_says] at hf
  have hx := B.1
  have hb := B.2.1
  have hml := B.2.2.1
  have ho := B.2.2.2.1
  have hw := B.2.2.2.2.1
  have hE := B.2.2.2.2.2.1.2.2
  have hg := B.2.2.2.2.2.2.1
  refine lv_iload_n hx hb dX2_says_0 rfl (lv_at hl 3 rfl) ?_
  refine lv_bipush (v := 12) hx hb dX2_says_1 (by decide) ?_
  refine lv_icmp_ge (tgt := 10) hx hb dX2_says_3 (by decide) (fun c1 => ?_) (fun c1 => ?_)
  · have hf := z_it c1 hf
    refine lv_aload_n hx hb dX2_says_10 rfl (lv_at hl 0 rfl) ?_
    refine lv_aload_n hx hb dX2_says_11 rfl (lv_at hl 1 rfl) ?_
    refine lv_iload_n hx hb dX2_says_12 rfl (lv_at hl 2 rfl) ?_
    refine lv_iload_n hx hb dX2_says_13 rfl (lv_at hl 3 rfl) ?_
    obtain ⟨r2, e3, hf⟩ := z_bd hf
    refine z_cSU (As := [.ref l1, .int l2, .int l3]) (rest := []) B hW (f_X0_says l e3 h1) sc_X0_says ss_X2_9 (sk_2) h0 ⟨Nat.le_of_ble_eq_true rfl, Nat.le_of_ble_eq_true rfl⟩ ⟨Nat.zero_le _, Nat.zero_le _⟩ rfl hl.1 rfl (Nat.le_of_ble_eq_true rfl) dX2_says_14 (fun H locs hW => ?_)
    have hf := Option.some.inj hf
    subst hf
    exact z_ri B hW dX2_says_17
  · have hf := z_if c1 hf
    refine lv_iconst (v := -1) hx hb dX2_says_6 (by decide) ?_
    refine lv_goto (tgt := 17) hx hb dX2_says_7 (by decide) ?_
    have hf := Option.some.inj hf
    subst hf
    exact z_ri B hW dX2_says_17
set_option maxHeartbeats 4000000 in
set_option maxRecDepth 100000 in
theorem f_J6_bitCount_0f7a4 (l : Launch) {Γ : Zg} {M : Zm} {l0 : Int32}  : z_Fn l Γ yJ6_bitCount_0f7a4 cJ6_bitCount_0f7a4 1 (some .int) 0 0 [.int l0] M (some (.int (J6_bitCount_0f7a4 l0))) M := by
  generalize hf : J6_bitCount_0f7a4 l0 = r
  refine z_Fn.of (by decide) (Nat.le_of_ble_eq_true rfl) ?_
  intro p e s m below meth c ls B hW hl
  have B : z_Bd Γ p s m _ meth c cJ6_bitCount_0f7a4 1 (some .int) RJ6 := B
  have hl : lv_has ls 1 [(0, .int l0)] := hl
  rw [J6_bitCount_0f7a4] at hf
  have hx := B.1
  have hb := B.2.1
  have hml := B.2.2.1
  have ho := B.2.2.2.1
  have hw := B.2.2.2.2.1
  have hE := B.2.2.2.2.2.1.2.2
  have hg := B.2.2.2.2.2.2.1
  refine lv_iload_n hx hb dJ6_bitCount_0f7a4_0 rfl (lv_at hl 0 rfl) ?_
  refine lv_iload_n hx hb dJ6_bitCount_0f7a4_1 rfl (lv_at hl 0 rfl) ?_
  refine lv_iconst (v := 1) hx hb dJ6_bitCount_0f7a4_2 (by decide) ?_
  refine lv_iushr hx hb dJ6_bitCount_0f7a4_3 rfl ?_
  refine lv_ldcw hx hb ho (hw _ q409) dJ6_bitCount_0f7a4_4 ?_
  refine lv_iand hx hb dJ6_bitCount_0f7a4_7 ?_
  refine lv_isub hx hb dJ6_bitCount_0f7a4_8 ?_
  refine lv_istore_n (lv' := [(0, .int (l0 - (((l0.toUInt32 >>> ((1 : Int32).toUInt32 &&& Int32.toUInt32 31)).toInt32) &&& (1431655765 : Int32))))]) hx hb dJ6_bitCount_0f7a4_9 rfl hl (by decide) rfl (fun ls hl => ?_)
  refine lv_iload_n hx hb dJ6_bitCount_0f7a4_10 rfl (lv_at hl 0 rfl) ?_
  refine lv_ldcw hx hb ho (hw _ q410) dJ6_bitCount_0f7a4_11 ?_
  refine lv_iand hx hb dJ6_bitCount_0f7a4_14 ?_
  refine lv_iload_n hx hb dJ6_bitCount_0f7a4_15 rfl (lv_at hl 0 rfl) ?_
  refine lv_iconst (v := 2) hx hb dJ6_bitCount_0f7a4_16 (by decide) ?_
  refine lv_iushr hx hb dJ6_bitCount_0f7a4_17 rfl ?_
  refine lv_ldcw hx hb ho (hw _ q410) dJ6_bitCount_0f7a4_18 ?_
  refine lv_iand hx hb dJ6_bitCount_0f7a4_21 ?_
  refine lv_iadd hx hb dJ6_bitCount_0f7a4_22 ?_
  refine lv_istore_n (lv' := [(0, .int (((l0 - (((l0.toUInt32 >>> ((1 : Int32).toUInt32 &&& Int32.toUInt32 31)).toInt32) &&& (1431655765 : Int32))) &&& (858993459 : Int32)) + ((((l0 - (((l0.toUInt32 >>> ((1 : Int32).toUInt32 &&& Int32.toUInt32 31)).toInt32) &&& (1431655765 : Int32))).toUInt32 >>> ((2 : Int32).toUInt32 &&& Int32.toUInt32 31)).toInt32) &&& (858993459 : Int32))))]) hx hb dJ6_bitCount_0f7a4_23 rfl hl (by decide) rfl (fun ls hl => ?_)
  refine lv_iload_n hx hb dJ6_bitCount_0f7a4_24 rfl (lv_at hl 0 rfl) ?_
  refine lv_iload_n hx hb dJ6_bitCount_0f7a4_25 rfl (lv_at hl 0 rfl) ?_
  refine lv_iconst (v := 4) hx hb dJ6_bitCount_0f7a4_26 (by decide) ?_
  refine lv_iushr hx hb dJ6_bitCount_0f7a4_27 rfl ?_
  refine lv_iadd hx hb dJ6_bitCount_0f7a4_28 ?_
  refine lv_ldcw hx hb ho (hw _ q411) dJ6_bitCount_0f7a4_29 ?_
  refine lv_iand hx hb dJ6_bitCount_0f7a4_32 ?_
  refine lv_istore_n (lv' := [(0, .int (((((l0 - (((l0.toUInt32 >>> ((1 : Int32).toUInt32 &&& Int32.toUInt32 31)).toInt32) &&& (1431655765 : Int32))) &&& (858993459 : Int32)) + ((((l0 - (((l0.toUInt32 >>> ((1 : Int32).toUInt32 &&& Int32.toUInt32 31)).toInt32) &&& (1431655765 : Int32))).toUInt32 >>> ((2 : Int32).toUInt32 &&& Int32.toUInt32 31)).toInt32) &&& (858993459 : Int32))) + (((((l0 - (((l0.toUInt32 >>> ((1 : Int32).toUInt32 &&& Int32.toUInt32 31)).toInt32) &&& (1431655765 : Int32))) &&& (858993459 : Int32)) + ((((l0 - (((l0.toUInt32 >>> ((1 : Int32).toUInt32 &&& Int32.toUInt32 31)).toInt32) &&& (1431655765 : Int32))).toUInt32 >>> ((2 : Int32).toUInt32 &&& Int32.toUInt32 31)).toInt32) &&& (858993459 : Int32))).toUInt32 >>> ((4 : Int32).toUInt32 &&& Int32.toUInt32 31)).toInt32)) &&& (252645135 : Int32)))]) hx hb dJ6_bitCount_0f7a4_33 rfl hl (by decide) rfl (fun ls hl => ?_)
  refine lv_iload_n hx hb dJ6_bitCount_0f7a4_34 rfl (lv_at hl 0 rfl) ?_
  refine lv_iload_n hx hb dJ6_bitCount_0f7a4_35 rfl (lv_at hl 0 rfl) ?_
  refine lv_bipush (v := 8) hx hb dJ6_bitCount_0f7a4_36 (by decide) ?_
  refine lv_iushr hx hb dJ6_bitCount_0f7a4_38 rfl ?_
  refine lv_iadd hx hb dJ6_bitCount_0f7a4_39 ?_
  refine lv_istore_n (lv' := [(0, .int ((((((l0 - (((l0.toUInt32 >>> ((1 : Int32).toUInt32 &&& Int32.toUInt32 31)).toInt32) &&& (1431655765 : Int32))) &&& (858993459 : Int32)) + ((((l0 - (((l0.toUInt32 >>> ((1 : Int32).toUInt32 &&& Int32.toUInt32 31)).toInt32) &&& (1431655765 : Int32))).toUInt32 >>> ((2 : Int32).toUInt32 &&& Int32.toUInt32 31)).toInt32) &&& (858993459 : Int32))) + (((((l0 - (((l0.toUInt32 >>> ((1 : Int32).toUInt32 &&& Int32.toUInt32 31)).toInt32) &&& (1431655765 : Int32))) &&& (858993459 : Int32)) + ((((l0 - (((l0.toUInt32 >>> ((1 : Int32).toUInt32 &&& Int32.toUInt32 31)).toInt32) &&& (1431655765 : Int32))).toUInt32 >>> ((2 : Int32).toUInt32 &&& Int32.toUInt32 31)).toInt32) &&& (858993459 : Int32))).toUInt32 >>> ((4 : Int32).toUInt32 &&& Int32.toUInt32 31)).toInt32)) &&& (252645135 : Int32)) + (((((((l0 - (((l0.toUInt32 >>> ((1 : Int32).toUInt32 &&& Int32.toUInt32 31)).toInt32) &&& (1431655765 : Int32))) &&& (858993459 : Int32)) + ((((l0 - (((l0.toUInt32 >>> ((1 : Int32).toUInt32 &&& Int32.toUInt32 31)).toInt32) &&& (1431655765 : Int32))).toUInt32 >>> ((2 : Int32).toUInt32 &&& Int32.toUInt32 31)).toInt32) &&& (858993459 : Int32))) + (((((l0 - (((l0.toUInt32 >>> ((1 : Int32).toUInt32 &&& Int32.toUInt32 31)).toInt32) &&& (1431655765 : Int32))) &&& (858993459 : Int32)) + ((((l0 - (((l0.toUInt32 >>> ((1 : Int32).toUInt32 &&& Int32.toUInt32 31)).toInt32) &&& (1431655765 : Int32))).toUInt32 >>> ((2 : Int32).toUInt32 &&& Int32.toUInt32 31)).toInt32) &&& (858993459 : Int32))).toUInt32 >>> ((4 : Int32).toUInt32 &&& Int32.toUInt32 31)).toInt32)) &&& (252645135 : Int32)).toUInt32 >>> ((8 : Int32).toUInt32 &&& Int32.toUInt32 31)).toInt32)))]) hx hb dJ6_bitCount_0f7a4_40 rfl hl (by decide) rfl (fun ls hl => ?_)
  refine lv_iload_n hx hb dJ6_bitCount_0f7a4_41 rfl (lv_at hl 0 rfl) ?_
  refine lv_iload_n hx hb dJ6_bitCount_0f7a4_42 rfl (lv_at hl 0 rfl) ?_
  refine lv_bipush (v := 16) hx hb dJ6_bitCount_0f7a4_43 (by decide) ?_
  refine lv_iushr hx hb dJ6_bitCount_0f7a4_45 rfl ?_
  refine lv_iadd hx hb dJ6_bitCount_0f7a4_46 ?_
  refine lv_istore_n (lv' := [(0, .int (((((((l0 - (((l0.toUInt32 >>> ((1 : Int32).toUInt32 &&& Int32.toUInt32 31)).toInt32) &&& (1431655765 : Int32))) &&& (858993459 : Int32)) + ((((l0 - (((l0.toUInt32 >>> ((1 : Int32).toUInt32 &&& Int32.toUInt32 31)).toInt32) &&& (1431655765 : Int32))).toUInt32 >>> ((2 : Int32).toUInt32 &&& Int32.toUInt32 31)).toInt32) &&& (858993459 : Int32))) + (((((l0 - (((l0.toUInt32 >>> ((1 : Int32).toUInt32 &&& Int32.toUInt32 31)).toInt32) &&& (1431655765 : Int32))) &&& (858993459 : Int32)) + ((((l0 - (((l0.toUInt32 >>> ((1 : Int32).toUInt32 &&& Int32.toUInt32 31)).toInt32) &&& (1431655765 : Int32))).toUInt32 >>> ((2 : Int32).toUInt32 &&& Int32.toUInt32 31)).toInt32) &&& (858993459 : Int32))).toUInt32 >>> ((4 : Int32).toUInt32 &&& Int32.toUInt32 31)).toInt32)) &&& (252645135 : Int32)) + (((((((l0 - (((l0.toUInt32 >>> ((1 : Int32).toUInt32 &&& Int32.toUInt32 31)).toInt32) &&& (1431655765 : Int32))) &&& (858993459 : Int32)) + ((((l0 - (((l0.toUInt32 >>> ((1 : Int32).toUInt32 &&& Int32.toUInt32 31)).toInt32) &&& (1431655765 : Int32))).toUInt32 >>> ((2 : Int32).toUInt32 &&& Int32.toUInt32 31)).toInt32) &&& (858993459 : Int32))) + (((((l0 - (((l0.toUInt32 >>> ((1 : Int32).toUInt32 &&& Int32.toUInt32 31)).toInt32) &&& (1431655765 : Int32))) &&& (858993459 : Int32)) + ((((l0 - (((l0.toUInt32 >>> ((1 : Int32).toUInt32 &&& Int32.toUInt32 31)).toInt32) &&& (1431655765 : Int32))).toUInt32 >>> ((2 : Int32).toUInt32 &&& Int32.toUInt32 31)).toInt32) &&& (858993459 : Int32))).toUInt32 >>> ((4 : Int32).toUInt32 &&& Int32.toUInt32 31)).toInt32)) &&& (252645135 : Int32)).toUInt32 >>> ((8 : Int32).toUInt32 &&& Int32.toUInt32 31)).toInt32)) + ((((((((l0 - (((l0.toUInt32 >>> ((1 : Int32).toUInt32 &&& Int32.toUInt32 31)).toInt32) &&& (1431655765 : Int32))) &&& (858993459 : Int32)) + ((((l0 - (((l0.toUInt32 >>> ((1 : Int32).toUInt32 &&& Int32.toUInt32 31)).toInt32) &&& (1431655765 : Int32))).toUInt32 >>> ((2 : Int32).toUInt32 &&& Int32.toUInt32 31)).toInt32) &&& (858993459 : Int32))) + (((((l0 - (((l0.toUInt32 >>> ((1 : Int32).toUInt32 &&& Int32.toUInt32 31)).toInt32) &&& (1431655765 : Int32))) &&& (858993459 : Int32)) + ((((l0 - (((l0.toUInt32 >>> ((1 : Int32).toUInt32 &&& Int32.toUInt32 31)).toInt32) &&& (1431655765 : Int32))).toUInt32 >>> ((2 : Int32).toUInt32 &&& Int32.toUInt32 31)).toInt32) &&& (858993459 : Int32))).toUInt32 >>> ((4 : Int32).toUInt32 &&& Int32.toUInt32 31)).toInt32)) &&& (252645135 : Int32)) + (((((((l0 - (((l0.toUInt32 >>> ((1 : Int32).toUInt32 &&& Int32.toUInt32 31)).toInt32) &&& (1431655765 : Int32))) &&& (858993459 : Int32)) + ((((l0 - (((l0.toUInt32 >>> ((1 : Int32).toUInt32 &&& Int32.toUInt32 31)).toInt32) &&& (1431655765 : Int32))).toUInt32 >>> ((2 : Int32).toUInt32 &&& Int32.toUInt32 31)).toInt32) &&& (858993459 : Int32))) + (((((l0 - (((l0.toUInt32 >>> ((1 : Int32).toUInt32 &&& Int32.toUInt32 31)).toInt32) &&& (1431655765 : Int32))) &&& (858993459 : Int32)) + ((((l0 - (((l0.toUInt32 >>> ((1 : Int32).toUInt32 &&& Int32.toUInt32 31)).toInt32) &&& (1431655765 : Int32))).toUInt32 >>> ((2 : Int32).toUInt32 &&& Int32.toUInt32 31)).toInt32) &&& (858993459 : Int32))).toUInt32 >>> ((4 : Int32).toUInt32 &&& Int32.toUInt32 31)).toInt32)) &&& (252645135 : Int32)).toUInt32 >>> ((8 : Int32).toUInt32 &&& Int32.toUInt32 31)).toInt32)).toUInt32 >>> ((16 : Int32).toUInt32 &&& Int32.toUInt32 31)).toInt32)))]) hx hb dJ6_bitCount_0f7a4_47 rfl hl (by decide) rfl (fun ls hl => ?_)
  refine lv_iload_n hx hb dJ6_bitCount_0f7a4_48 rfl (lv_at hl 0 rfl) ?_
  refine lv_bipush (v := 63) hx hb dJ6_bitCount_0f7a4_49 (by decide) ?_
  refine lv_iand hx hb dJ6_bitCount_0f7a4_51 ?_
  subst hf
  exact z_ri B hW dJ6_bitCount_0f7a4_52
set_option maxHeartbeats 4000000 in
set_option maxRecDepth 100000 in
theorem f_X2_stays (l : Launch) {Γ : Zg} {M : Zm} {l0 : Nat} {l1 : Nat} (h0 : z_Is Γ 2 l0) (h1 : z_Is Γ 8 l1) : z_Fn l Γ yX2_stays cX2_stays 2 (some .int) 2 42 [.ref l0, .ref l1] M (some (.int (X2_stays M l0 l1))) M := by
  generalize hf : X2_stays M l0 l1 = r
  refine z_Fn.of (by decide) (Nat.le_of_ble_eq_true rfl) ?_
  intro p e s m below meth c ls B hW hl
  have B : z_Bd Γ p s m _ meth c cX2_stays 2 (some .int) RX2 := B
  have hl : lv_has ls 2 [(0, .ref l0), (1, .ref l1)] := hl
  rw [X2_stays] at hf
  have hx := B.1
  have hb := B.2.1
  have hml := B.2.2.1
  have ho := B.2.2.2.1
  have hw := B.2.2.2.2.1
  have hE := B.2.2.2.2.2.1.2.2
  have hg := B.2.2.2.2.2.2.1
  refine lv_aload_n hx hb dX2_stays_0 rfl (lv_at hl 0 rfl) ?_
  refine lv_aload_n hx hb dX2_stays_1 rfl (lv_at hl 1 rfl) ?_
  refine z_cSU (As := [.ref l1]) (rest := []) B hW (f_X0_stays l (Or.inr h0) h1) sc_X0_stays ss_X2_13 (sk_2) h0 ⟨Nat.le_of_ble_eq_true rfl, Nat.le_of_ble_eq_true rfl⟩ ⟨Nat.zero_le _, Nat.zero_le _⟩ rfl hl.1 rfl (Nat.le_of_ble_eq_true rfl) dX2_stays_2 (fun H locs hW => ?_)
  refine lv_aload_n hx hb dX2_stays_5 rfl (lv_at hl 1 rfl) ?_
  refine z_getN_8_1 B hW h1 q154 dX2_stays_6 ?_
  refine z_cS (As := [.int (M.1 l1 1)]) (rest := [.int (X0_stays l0 l1)]) B hW (f_J6_bitCount_0f7a4 l) sc_J6_bitCount_0f7a4 ⟨q406, q407⟩ ⟨Nat.le_of_ble_eq_true rfl, Nat.le_of_ble_eq_true rfl⟩ ⟨Nat.zero_le _, Nat.zero_le _⟩ rfl hl.1 rfl (Nat.le_of_ble_eq_true rfl) dX2_stays_9 (fun H locs hW => ?_)
  refine lv_iconst (v := 4) hx hb dX2_stays_12 (by decide) ?_
  refine lv_idiv hx hb dX2_stays_13 (by decide) ?_
  refine lv_iadd hx hb dX2_stays_14 ?_
  subst hf
  exact z_ri B hW dX2_stays_15
set_option maxHeartbeats 4000000 in
set_option maxRecDepth 100000 in
theorem f_X8_become (l : Launch) {Γ : Zg} {M : Zm} {l0 : Nat} {l1 : Nat} {M' : Zm} (hf : X8_become M l0 l1 = M') (h0 : z_Is Γ 8 l0) (h1 : z_Is Γ 8 l1) : z_Fn l Γ yX8_become cX8_become 2 none 0 0 [.ref l0, .ref l1] M none M' := by
  refine z_Fn.of (by decide) (Nat.le_of_ble_eq_true rfl) ?_
  intro p e s m below meth c ls B hW hl
  have B : z_Bd Γ p s m _ meth c cX8_become 2 none RX8 := B
  have hl : lv_has ls 2 [(0, .ref l0), (1, .ref l1)] := hl
  rw [X8_become] at hf
  have hx := B.1
  have hb := B.2.1
  have hml := B.2.2.1
  have ho := B.2.2.2.1
  have hw := B.2.2.2.2.1
  have hE := B.2.2.2.2.2.1.2.2
  have hg := B.2.2.2.2.2.2.1
  refine lv_aload_n hx hb dX8_become_0 rfl (lv_at hl 0 rfl) ?_
  refine lv_aload_n hx hb dX8_become_1 rfl (lv_at hl 1 rfl) ?_
  refine z_get_8_0 B hW h1 q149 dX8_become_2 ?_
  refine z_put_8_0 B hW h0 q149 dX8_become_5 (fun H locs hW => ?_)
  obtain ⟨M1, e2, hf⟩ := z_le hf
  have hW := z_wde e2 hW
  refine lv_aload_n hx hb dX8_become_8 rfl (lv_at hl 0 rfl) ?_
  refine lv_aload_n hx hb dX8_become_9 rfl (lv_at hl 1 rfl) ?_
  refine z_get_8_1 B hW h1 q153 dX8_become_10 ?_
  refine z_put_8_1 B hW h0 q153 dX8_become_13 (fun H locs hW => ?_)
  obtain ⟨M3, e4, hf⟩ := z_le hf
  have hW := z_wde e4 hW
  refine lv_aload_n hx hb dX8_become_16 rfl (lv_at hl 0 rfl) ?_
  refine lv_aload_n hx hb dX8_become_17 rfl (lv_at hl 1 rfl) ?_
  refine z_get_8_2 B hW h1 q159 dX8_become_18 ?_
  refine z_put_8_2 B hW h0 q159 dX8_become_21 (fun H locs hW => ?_)
  obtain ⟨M5, e6, hf⟩ := z_le hf
  have hW := z_wde e6 hW
  refine lv_aload_n hx hb dX8_become_24 rfl (lv_at hl 0 rfl) ?_
  refine lv_aload_n hx hb dX8_become_25 rfl (lv_at hl 1 rfl) ?_
  refine z_get_8_3 B hW h1 q163 dX8_become_26 ?_
  refine z_put_8_3 B hW h0 q163 dX8_become_29 (fun H locs hW => ?_)
  obtain ⟨M7, e8, hf⟩ := z_le hf
  have hW := z_wde e8 hW
  refine lv_aload_n hx hb dX8_become_32 rfl (lv_at hl 0 rfl) ?_
  refine lv_aload_n hx hb dX8_become_33 rfl (lv_at hl 1 rfl) ?_
  refine z_get_8_4 B hW h1 q166 dX8_become_34 ?_
  refine z_put_8_4 B hW h0 q166 dX8_become_37 (fun H locs hW => ?_)
  obtain ⟨M9, e10, hf⟩ := z_le hf
  have hW := z_wde e10 hW
  refine lv_aload_n hx hb dX8_become_40 rfl (lv_at hl 0 rfl) ?_
  refine lv_aload_n hx hb dX8_become_41 rfl (lv_at hl 1 rfl) ?_
  refine z_get_8_5 B hW h1 q169 dX8_become_42 ?_
  refine z_put_8_5 B hW h0 q169 dX8_become_45 (fun H locs hW => ?_)
  obtain ⟨M11, e12, hf⟩ := z_le hf
  have hW := z_wde e12 hW
  subst hf
  exact z_rv B hW dX8_become_48
set_option maxHeartbeats 4000000 in
set_option maxRecDepth 100000 in
theorem w_X3_become_P34 (B : z_Bd Γ p s m args meth c cX3_become 3 none RX3) : ∀ (n : Nat) (M : Zm) (l0 : Nat) (l1 : Nat) (l2 : Int32) (M' : Zm), X3_become_P34 Γ n M l0 l1 l2 = some M' → z_Is Γ 3 l0 → z_Is Γ 3 l1 → ∀ (H : Heap) (locs : List Loc) (ls : Array Slot), z_Wd Γ M s.heap H locs → lv_has ls 3 [(0, .ref l0), (1, .ref l1), (2, .int l2)] → W p l e (z_rm 1 21) s m args below meth c H locs 0 0 (z_Q Γ below args s none M') (F0 m 34 ls []) := by
  have hx := B.1
  have hb := B.2.1
  have hml := B.2.2.1
  have ho := B.2.2.2.1
  have hw := B.2.2.2.2.1
  have hE := B.2.2.2.2.2.1.2.2
  have hg := B.2.2.2.2.2.2.1
  intro n
  induction n with
  | zero =>
    intro M l0 l1 l2 M' hf h0 h1 H locs ls hW hl
    cases hf
  | succ n ih =>
    intro M l0 l1 l2 M' hf h0 h1 H locs ls hW hl
    rw [X3_become_P34] at hf
    refine lv_iload_n hx hb dX3_become_34 rfl (lv_at hl 2 rfl) ?_
    refine lv_aload_n hx hb dX3_become_35 rfl (lv_at hl 0 rfl) ?_
    refine z_get_3_2 B hW h0 q187 dX3_become_36 ?_
    refine lv_icmp_ge (tgt := 63) hx hb dX3_become_39 (by decide) (fun c9 => ?_) (fun c9 => ?_)
    · have hf := z_it c9 hf
      have hf := Option.some.inj hf
      subst hf
      exact z_rv B hW dX3_become_63
    · have hf := z_if c9 hf
      refine lv_aload_n hx hb dX3_become_42 rfl (lv_at hl 0 rfl) ?_
      refine z_get_3_1 B hW h0 q186 dX3_become_43 ?_
      refine lv_iload_n hx hb dX3_become_46 rfl (lv_at hl 2 rfl) ?_
      obtain ⟨g10, hf⟩ := z_gd hf
      refine z_aa16 B hW (z_g3_1 hg h0) g10 dX3_become_47 ?_
      refine lv_aload_n hx hb dX3_become_48 rfl (lv_at hl 1 rfl) ?_
      refine z_get_3_1 B hW h1 q186 dX3_become_49 ?_
      refine lv_iload_n hx hb dX3_become_52 rfl (lv_at hl 2 rfl) ?_
      obtain ⟨g11, hf⟩ := z_gd hf
      refine z_aa16 B hW (z_g3_1 hg h1) g11 dX3_become_53 ?_
      obtain ⟨M13, e14, hf⟩ := z_le hf
      refine z_cV (As := [.ref (z_r Γ (z_r Γ l1 1) l2.toNatClampNeg)]) (rest := []) B hW (f_X8_become l e14 (z_g16 hg (z_g3_1 hg h0) g10) (z_g16 hg (z_g3_1 hg h1) g11)) sc_X8_become sv_X3_35 (z_g16 hg (z_g3_1 hg h0) g10) ⟨Nat.le_of_ble_eq_true rfl, Nat.le_of_ble_eq_true rfl⟩ ⟨Nat.zero_le _, Nat.zero_le _⟩ rfl hl.1 rfl (Nat.le_of_ble_eq_true rfl) dX3_become_54 (fun H locs hW => ?_)
      refine lv_iinc (v := l2 + (1 : Int32)) (lv' := [(2, .int (l2 + (1 : Int32))), (0, .ref l0), (1, .ref l1)]) hx hb dX3_become_57 hl (k := 2) rfl rfl (by decide) rfl (fun ls hl => ?_)
      refine lv_goto (tgt := 34) hx hb dX3_become_60 (by decide) ?_
      exact ih M13 l0 l1 (l2 + (1 : Int32)) _ hf h0 h1 _ _ _ hW (lv_sub hl [1, 2, 0] rfl)
set_option maxHeartbeats 4000000 in
set_option maxRecDepth 100000 in
theorem f_X3_become (l : Launch) {Γ : Zg} {M : Zm} {l0 : Nat} {l1 : Nat} {M' : Zm} (hf : X3_become Γ M l0 l1 = some M') (h0 : z_Is Γ 3 l0) (h1 : z_Is Γ 3 l1) : z_Fn l Γ yX3_become cX3_become 3 none 1 21 [.ref l0, .ref l1] M none M' := by
  refine z_Fn.of (by decide) (Nat.le_of_ble_eq_true rfl) ?_
  intro p e s m below meth c ls B hW hl
  have B : z_Bd Γ p s m _ meth c cX3_become 3 none RX3 := B
  have hl : lv_has ls 3 [(0, .ref l0), (1, .ref l1)] := hl
  rw [X3_become] at hf
  have hx := B.1
  have hb := B.2.1
  have hml := B.2.2.1
  have ho := B.2.2.2.1
  have hw := B.2.2.2.2.1
  have hE := B.2.2.2.2.2.1.2.2
  have hg := B.2.2.2.2.2.2.1
  refine lv_aload_n hx hb dX3_become_0 rfl (lv_at hl 0 rfl) ?_
  refine lv_aload_n hx hb dX3_become_1 rfl (lv_at hl 1 rfl) ?_
  refine z_get_3_2 B hW h1 q187 dX3_become_2 ?_
  refine z_put_3_2 B hW h0 q187 dX3_become_5 (fun H locs hW => ?_)
  obtain ⟨M1, e2, hf⟩ := z_le hf
  have hW := z_wde e2 hW
  refine lv_aload_n hx hb dX3_become_8 rfl (lv_at hl 0 rfl) ?_
  refine lv_aload_n hx hb dX3_become_9 rfl (lv_at hl 1 rfl) ?_
  refine z_get_3_3 B hW h1 q189 dX3_become_10 ?_
  refine z_put_3_3 B hW h0 q189 dX3_become_13 (fun H locs hW => ?_)
  obtain ⟨M3, e4, hf⟩ := z_le hf
  have hW := z_wde e4 hW
  refine lv_aload_n hx hb dX3_become_16 rfl (lv_at hl 0 rfl) ?_
  refine lv_aload_n hx hb dX3_become_17 rfl (lv_at hl 1 rfl) ?_
  refine z_get_3_4 B hW h1 q192 dX3_become_18 ?_
  refine z_put_3_4 B hW h0 q192 dX3_become_21 (fun H locs hW => ?_)
  obtain ⟨M5, e6, hf⟩ := z_le hf
  have hW := z_wde e6 hW
  refine lv_aload_n hx hb dX3_become_24 rfl (lv_at hl 0 rfl) ?_
  refine lv_aload_n hx hb dX3_become_25 rfl (lv_at hl 1 rfl) ?_
  refine z_get_3_5 B hW h1 q194 dX3_become_26 ?_
  refine z_put_3_5 B hW h0 q194 dX3_become_29 (fun H locs hW => ?_)
  obtain ⟨M7, e8, hf⟩ := z_le hf
  have hW := z_wde e8 hW
  refine lv_iconst (v := 0) hx hb dX3_become_32 (by decide) ?_
  refine lv_istore_n (lv' := [(2, .int (0 : Int32)), (0, .ref l0), (1, .ref l1)]) hx hb dX3_become_33 rfl hl (by decide) rfl (fun ls hl => ?_)
  exact w_X3_become_P34 B 1000 M7 l0 l1 (0 : Int32) _ hf h0 h1 _ _ _ hW (lv_sub hl [1, 2, 0] rfl)
set_option maxHeartbeats 4000000 in
set_option maxRecDepth 100000 in
theorem f_X3_has (l : Launch) {Γ : Zg} {M : Zm} {l0 : Nat} {l1 : Int32} (h0 : z_Is Γ 3 l0) : z_Fn l Γ yX3_has cX3_has 2 (some .boolean) 0 0 [.ref l0, .int l1] M (some (.int (X3_has M l0 l1))) M := by
  generalize hf : X3_has M l0 l1 = r
  refine z_Fn.of (by decide) (Nat.le_of_ble_eq_true rfl) ?_
  intro p e s m below meth c ls B hW hl
  have B : z_Bd Γ p s m _ meth c cX3_has 2 (some .boolean) RX3 := B
  have hl : lv_has ls 2 [(0, .ref l0), (1, .int l1)] := hl
  rw [X3_has] at hf
  have hx := B.1
  have hb := B.2.1
  have hml := B.2.2.1
  have ho := B.2.2.2.1
  have hw := B.2.2.2.2.1
  have hE := B.2.2.2.2.2.1.2.2
  have hg := B.2.2.2.2.2.2.1
  refine lv_iload_n hx hb dX3_has_0 rfl (lv_at hl 1 rfl) ?_
  refine lv_if_lt (tgt := 16) hx hb dX3_has_1 (by decide) (fun c1 => ?_) (fun c1 => ?_)
  · have hf := z_it c1 hf
    refine lv_iconst (v := 0) hx hb dX3_has_16 (by decide) ?_
    subst hf
    exact z_rz B hW (Or.inl rfl) dX3_has_17
  · have hf := z_if c1 hf
    refine lv_iload_n hx hb dX3_has_4 rfl (lv_at hl 1 rfl) ?_
    refine lv_aload_n hx hb dX3_has_5 rfl (lv_at hl 0 rfl) ?_
    refine z_get_3_2 B hW h0 q187 dX3_has_6 ?_
    refine lv_icmp_ge (tgt := 16) hx hb dX3_has_9 (by decide) (fun c2 => ?_) (fun c2 => ?_)
    · have hf := z_it c2 hf
      refine lv_iconst (v := 0) hx hb dX3_has_16 (by decide) ?_
      subst hf
      exact z_rz B hW (Or.inl rfl) dX3_has_17
    · have hf := z_if c2 hf
      refine lv_iconst (v := 1) hx hb dX3_has_12 (by decide) ?_
      refine lv_goto (tgt := 17) hx hb dX3_has_13 (by decide) ?_
      subst hf
      exact z_rz B hW (Or.inr rfl) dX3_has_17
set_option maxHeartbeats 4000000 in
set_option maxRecDepth 100000 in
theorem f_X3_isFull (l : Launch) {Γ : Zg} {M : Zm} {l0 : Nat} (h0 : z_Is Γ 3 l0) : z_Fn l Γ yX3_isFull cX3_isFull 1 (some .boolean) 0 0 [.ref l0] M (some (.int (X3_isFull M l0))) M := by
  generalize hf : X3_isFull M l0 = r
  refine z_Fn.of (by decide) (Nat.le_of_ble_eq_true rfl) ?_
  intro p e s m below meth c ls B hW hl
  have B : z_Bd Γ p s m _ meth c cX3_isFull 1 (some .boolean) RX3 := B
  have hl : lv_has ls 1 [(0, .ref l0)] := hl
  rw [X3_isFull] at hf
  have hx := B.1
  have hb := B.2.1
  have hml := B.2.2.1
  have ho := B.2.2.2.1
  have hw := B.2.2.2.2.1
  have hE := B.2.2.2.2.2.1.2.2
  have hg := B.2.2.2.2.2.2.1
  refine lv_aload_n hx hb dX3_isFull_0 rfl (lv_at hl 0 rfl) ?_
  refine z_get_3_2 B hW h0 q187 dX3_isFull_1 ?_
  refine lv_bipush (v := 8) hx hb dX3_isFull_4 (by decide) ?_
  refine lv_icmp_lt (tgt := 13) hx hb dX3_isFull_6 (by decide) (fun c1 => ?_) (fun c1 => ?_)
  · have hf := z_it c1 hf
    refine lv_iconst (v := 0) hx hb dX3_isFull_13 (by decide) ?_
    subst hf
    exact z_rz B hW (Or.inl rfl) dX3_isFull_14
  · have hf := z_if c1 hf
    refine lv_iconst (v := 1) hx hb dX3_isFull_9 (by decide) ?_
    refine lv_goto (tgt := 14) hx hb dX3_isFull_10 (by decide) ?_
    subst hf
    exact z_rz B hW (Or.inr rfl) dX3_isFull_14
set_option maxHeartbeats 4000000 in
set_option maxRecDepth 100000 in
theorem f_X3_visitor (l : Launch) {Γ : Zg} {M : Zm} {l0 : Nat} {l1 : Int32} {r : Nat} (hf : X3_visitor Γ l0 l1 = some r) (h0 : z_Is Γ 3 l0) : z_Fn l Γ yX3_visitor cX3_visitor 2 (some (.object "WhisperSeats$Visitor")) 0 0 [.ref l0, .int l1] M (some (.ref r)) M := by
  refine z_Fn.of (by decide) (Nat.le_of_ble_eq_true rfl) ?_
  intro p e s m below meth c ls B hW hl
  have B : z_Bd Γ p s m _ meth c cX3_visitor 2 (some (.object "WhisperSeats$Visitor")) RX3 := B
  have hl : lv_has ls 2 [(0, .ref l0), (1, .int l1)] := hl
  rw [X3_visitor] at hf
  have hx := B.1
  have hb := B.2.1
  have hml := B.2.2.1
  have ho := B.2.2.2.1
  have hw := B.2.2.2.2.1
  have hE := B.2.2.2.2.2.1.2.2
  have hg := B.2.2.2.2.2.2.1
  refine lv_aload_n hx hb dX3_visitor_0 rfl (lv_at hl 0 rfl) ?_
  refine z_get_3_1 B hW h0 q186 dX3_visitor_1 ?_
  refine lv_iload_n hx hb dX3_visitor_4 rfl (lv_at hl 1 rfl) ?_
  obtain ⟨g1, hf⟩ := z_gd hf
  refine z_aa16 B hW (z_g3_1 hg h0) g1 dX3_visitor_5 ?_
  have hf := Option.some.inj hf
  subst hf
  exact z_ra B hW dX3_visitor_6
set_option maxHeartbeats 4000000 in
set_option maxRecDepth 100000 in
theorem f_X8_settle (l : Launch) {Γ : Zg} {M : Zm} {l0 : Nat} {l1 : Int32} {M' : Zm} (hf : X8_settle M l0 l1 = M') (h0 : z_Is Γ 8 l0) : z_Fn l Γ yX8_settle cX8_settle 2 none 0 0 [.ref l0, .int l1] M none M' := by
  refine z_Fn.of (by decide) (Nat.le_of_ble_eq_true rfl) ?_
  intro p e s m below meth c ls B hW hl
  have B : z_Bd Γ p s m _ meth c cX8_settle 2 none RX8 := B
  have hl : lv_has ls 2 [(0, .ref l0), (1, .int l1)] := hl
  rw [X8_settle] at hf
  have hx := B.1
  have hb := B.2.1
  have hml := B.2.2.1
  have ho := B.2.2.2.1
  have hw := B.2.2.2.2.1
  have hE := B.2.2.2.2.2.1.2.2
  have hg := B.2.2.2.2.2.2.1
  refine lv_aload_n hx hb dX8_settle_0 rfl (lv_at hl 0 rfl) ?_
  refine lv_iload_n hx hb dX8_settle_1 rfl (lv_at hl 1 rfl) ?_
  refine z_put_8_3 B hW h0 q163 dX8_settle_2 (fun H locs hW => ?_)
  obtain ⟨M1, e2, hf⟩ := z_le hf
  have hW := z_wde e2 hW
  refine lv_aload_n hx hb dX8_settle_5 rfl (lv_at hl 0 rfl) ?_
  refine lv_iconst (v := 0) hx hb dX8_settle_6 (by decide) ?_
  refine z_put_8_4 B hW h0 q166 dX8_settle_7 (fun H locs hW => ?_)
  obtain ⟨M3, e4, hf⟩ := z_le hf
  have hW := z_wde e4 hW
  subst hf
  exact z_rv B hW dX8_settle_10
set_option maxHeartbeats 4000000 in
set_option maxRecDepth 100000 in
theorem f_X8_beNew (l : Launch) {Γ : Zg} {M : Zm} {l0 : Nat} {l1 : Int32} {M' : Zm} (hf : X8_beNew M l0 l1 = M') (h0 : z_Is Γ 8 l0) : z_Fn l Γ yX8_beNew cX8_beNew 2 none 1 21 [.ref l0, .int l1] M none M' := by
  refine z_Fn.of (by decide) (Nat.le_of_ble_eq_true rfl) ?_
  intro p e s m below meth c ls B hW hl
  have B : z_Bd Γ p s m _ meth c cX8_beNew 2 none RX8 := B
  have hl : lv_has ls 2 [(0, .ref l0), (1, .int l1)] := hl
  rw [X8_beNew] at hf
  have hx := B.1
  have hb := B.2.1
  have hml := B.2.2.1
  have ho := B.2.2.2.1
  have hw := B.2.2.2.2.1
  have hE := B.2.2.2.2.2.1.2.2
  have hg := B.2.2.2.2.2.2.1
  refine lv_aload_n hx hb dX8_beNew_0 rfl (lv_at hl 0 rfl) ?_
  refine lv_iload_n hx hb dX8_beNew_1 rfl (lv_at hl 1 rfl) ?_
  refine z_put_8_0 B hW h0 q149 dX8_beNew_2 (fun H locs hW => ?_)
  obtain ⟨M1, e2, hf⟩ := z_le hf
  have hW := z_wde e2 hW
  refine lv_aload_n hx hb dX8_beNew_5 rfl (lv_at hl 0 rfl) ?_
  refine lv_iconst (v := 0) hx hb dX8_beNew_6 (by decide) ?_
  refine z_put_8_1 B hW h0 q153 dX8_beNew_7 (fun H locs hW => ?_)
  obtain ⟨M3, e4, hf⟩ := z_le hf
  have hW := z_wde e4 hW
  refine lv_aload_n hx hb dX8_beNew_10 rfl (lv_at hl 0 rfl) ?_
  refine lv_iconst (v := 0) hx hb dX8_beNew_11 (by decide) ?_
  refine z_put_8_2 B hW h0 q159 dX8_beNew_12 (fun H locs hW => ?_)
  obtain ⟨M5, e6, hf⟩ := z_le hf
  have hW := z_wde e6 hW
  refine lv_aload_n hx hb dX8_beNew_15 rfl (lv_at hl 0 rfl) ?_
  refine lv_iconst (v := 0) hx hb dX8_beNew_16 (by decide) ?_
  refine z_put_8_5 B hW h0 q169 dX8_beNew_17 (fun H locs hW => ?_)
  obtain ⟨M7, e8, hf⟩ := z_le hf
  have hW := z_wde e8 hW
  refine lv_aload_n hx hb dX8_beNew_20 rfl (lv_at hl 0 rfl) ?_
  refine lv_iconst (v := -1) hx hb dX8_beNew_21 (by decide) ?_
  obtain ⟨M10, e11, hf⟩ := z_le hf
  refine z_cV (As := [.int (-1 : Int32)]) (rest := []) B hW (f_X8_settle l e11 h0) sc_X8_settle sv_X8_24 h0 ⟨Nat.le_of_ble_eq_true rfl, Nat.le_of_ble_eq_true rfl⟩ ⟨Nat.zero_le _, Nat.zero_le _⟩ rfl hl.1 rfl (Nat.le_of_ble_eq_true rfl) dX8_beNew_22 (fun H locs hW => ?_)
  subst hf
  exact z_rv B hW dX8_beNew_25
set_option maxHeartbeats 4000000 in
set_option maxRecDepth 100000 in
theorem f_X3_welcome (l : Launch) {Γ : Zg} {M : Zm} {l0 : Nat} {l1 : Int32} {r : Int32} {M' : Zm} (hf : X3_welcome Γ M l0 l1 = some (r, M')) (h0 : z_Is Γ 3 l0) : z_Fn l Γ yX3_welcome cX3_welcome 2 (some .int) 2 42 [.ref l0, .int l1] M (some (.int r)) M' := by
  refine z_Fn.of (by decide) (Nat.le_of_ble_eq_true rfl) ?_
  intro p e s m below meth c ls B hW hl
  have B : z_Bd Γ p s m _ meth c cX3_welcome 2 (some .int) RX3 := B
  have hl : lv_has ls 2 [(0, .ref l0), (1, .int l1)] := hl
  rw [X3_welcome] at hf
  have hx := B.1
  have hb := B.2.1
  have hml := B.2.2.1
  have ho := B.2.2.2.1
  have hw := B.2.2.2.2.1
  have hE := B.2.2.2.2.2.1.2.2
  have hg := B.2.2.2.2.2.2.1
  refine lv_aload_n hx hb dX3_welcome_0 rfl (lv_at hl 0 rfl) ?_
  refine z_get_3_1 B hW h0 q186 dX3_welcome_1 ?_
  refine lv_aload_n hx hb dX3_welcome_4 rfl (lv_at hl 0 rfl) ?_
  refine z_get_3_2 B hW h0 q187 dX3_welcome_5 ?_
  obtain ⟨g1, hf⟩ := z_gd hf
  refine z_aa16 B hW (z_g3_1 hg h0) g1 dX3_welcome_8 ?_
  refine lv_iload_n hx hb dX3_welcome_9 rfl (lv_at hl 1 rfl) ?_
  obtain ⟨M3, e4, hf⟩ := z_le hf
  refine z_cV (As := [.int l1]) (rest := []) B hW (f_X8_beNew l e4 (z_g16 hg (z_g3_1 hg h0) g1)) sc_X8_beNew sv_X3_39 (z_g16 hg (z_g3_1 hg h0) g1) ⟨Nat.le_of_ble_eq_true rfl, Nat.le_of_ble_eq_true rfl⟩ ⟨Nat.zero_le _, Nat.zero_le _⟩ rfl hl.1 rfl (Nat.le_of_ble_eq_true rfl) dX3_welcome_10 (fun H locs hW => ?_)
  refine lv_aload_n hx hb dX3_welcome_13 rfl (lv_at hl 0 rfl) ?_
  refine lv_dup hx hb dX3_welcome_14 rfl ?_
  refine z_get_3_2 B hW h0 q187 dX3_welcome_15 ?_
  refine lv_iconst (v := 1) hx hb dX3_welcome_18 (by decide) ?_
  refine lv_iadd hx hb dX3_welcome_19 ?_
  refine z_put_3_2 B hW h0 q187 dX3_welcome_20 (fun H locs hW => ?_)
  obtain ⟨M5, e6, hf⟩ := z_le hf
  have hW := z_wde e6 hW
  refine lv_aload_n hx hb dX3_welcome_23 rfl (lv_at hl 0 rfl) ?_
  refine z_get_3_2 B hW h0 q187 dX3_welcome_24 ?_
  refine lv_iconst (v := 1) hx hb dX3_welcome_27 (by decide) ?_
  refine lv_isub hx hb dX3_welcome_28 ?_
  obtain ⟨e1, e2⟩ := z_s2 hf
  subst e1
  subst e2
  exact z_ri B hW dX3_welcome_29
set_option maxHeartbeats 4000000 in
set_option maxRecDepth 100000 in
theorem f_X3_hourOfDay (l : Launch) {Γ : Zg} {M : Zm} {l0 : Nat} (h0 : z_Is Γ 3 l0) : z_Fn l Γ yX3_hourOfDay cX3_hourOfDay 1 (some .int) 0 0 [.ref l0] M (some (.int (X3_hourOfDay M l0))) M := by
  generalize hf : X3_hourOfDay M l0 = r
  refine z_Fn.of (by decide) (Nat.le_of_ble_eq_true rfl) ?_
  intro p e s m below meth c ls B hW hl
  have B : z_Bd Γ p s m _ meth c cX3_hourOfDay 1 (some .int) RX3 := B
  have hl : lv_has ls 1 [(0, .ref l0)] := hl
  rw [X3_hourOfDay] at hf
  have hx := B.1
  have hb := B.2.1
  have hml := B.2.2.1
  have ho := B.2.2.2.1
  have hw := B.2.2.2.2.1
  have hE := B.2.2.2.2.2.1.2.2
  have hg := B.2.2.2.2.2.2.1
  refine lv_aload_n hx hb dX3_hourOfDay_0 rfl (lv_at hl 0 rfl) ?_
  refine z_get_3_4 B hW h0 q192 dX3_hourOfDay_1 ?_
  refine lv_bipush (v := 24) hx hb dX3_hourOfDay_4 (by decide) ?_
  refine lv_irem hx hb dX3_hourOfDay_6 (by decide) ?_
  subst hf
  exact z_ri B hW dX3_hourOfDay_7
set_option maxHeartbeats 4000000 in
set_option maxRecDepth 100000 in
theorem f_X3_isMonday (l : Launch) {Γ : Zg} {M : Zm} {l0 : Nat} (h0 : z_Is Γ 3 l0) : z_Fn l Γ yX3_isMonday cX3_isMonday 1 (some .boolean) 0 0 [.ref l0] M (some (.int (X3_isMonday M l0))) M := by
  generalize hf : X3_isMonday M l0 = r
  refine z_Fn.of (by decide) (Nat.le_of_ble_eq_true rfl) ?_
  intro p e s m below meth c ls B hW hl
  have B : z_Bd Γ p s m _ meth c cX3_isMonday 1 (some .boolean) RX3 := B
  have hl : lv_has ls 1 [(0, .ref l0)] := hl
  rw [X3_isMonday] at hf
  have hx := B.1
  have hb := B.2.1
  have hml := B.2.2.1
  have ho := B.2.2.2.1
  have hw := B.2.2.2.2.1
  have hE := B.2.2.2.2.2.1.2.2
  have hg := B.2.2.2.2.2.2.1
  refine lv_aload_n hx hb dX3_isMonday_0 rfl (lv_at hl 0 rfl) ?_
  refine z_get_3_4 B hW h0 q192 dX3_isMonday_1 ?_
  refine lv_bipush (v := 24) hx hb dX3_isMonday_4 (by decide) ?_
  refine lv_idiv hx hb dX3_isMonday_6 (by decide) ?_
  refine lv_bipush (v := 7) hx hb dX3_isMonday_7 (by decide) ?_
  refine lv_irem hx hb dX3_isMonday_9 (by decide) ?_
  refine lv_if_ne (tgt := 17) hx hb dX3_isMonday_10 (by decide) (fun c1 => ?_) (fun c1 => ?_)
  · have hf := z_if c1 hf
    refine lv_iconst (v := 0) hx hb dX3_isMonday_17 (by decide) ?_
    subst hf
    exact z_rz B hW (Or.inl rfl) dX3_isMonday_18
  · have hf := z_it c1 hf
    refine lv_iconst (v := 1) hx hb dX3_isMonday_13 (by decide) ?_
    refine lv_goto (tgt := 18) hx hb dX3_isMonday_14 (by decide) ?_
    subst hf
    exact z_rz B hW (Or.inr rfl) dX3_isMonday_18
set_option maxHeartbeats 4000000 in
set_option maxRecDepth 100000 in
theorem w_X3_holder_P2 (B : z_Bd Γ p s m args meth c cX3_holder 3 (some .int) RX3) : ∀ (n : Nat) (M : Zm) (l0 : Nat) (l1 : Int32) (l2 : Int32) (r : Int32), X3_holder_P2 Γ n M l0 l1 l2 = some r → z_Is Γ 3 l0 → ∀ (H : Heap) (locs : List Loc) (ls : Array Slot), z_Wd Γ M s.heap H locs → lv_has ls 3 [(0, .ref l0), (1, .int l1), (2, .int l2)] → W p l e (z_rm 0 0) s m args below meth c H locs 0 0 (z_Q Γ below args s (some (.int r)) M) (F0 m 2 ls []) := by
  have hx := B.1
  have hb := B.2.1
  have hml := B.2.2.1
  have ho := B.2.2.2.1
  have hw := B.2.2.2.2.1
  have hE := B.2.2.2.2.2.1.2.2
  have hg := B.2.2.2.2.2.2.1
  intro n
  induction n with
  | zero =>
    intro M l0 l1 l2 r hf h0 H locs ls hW hl
    cases hf
  | succ n ih =>
    intro M l0 l1 l2 r hf h0 H locs ls hW hl
    rw [X3_holder_P2] at hf
    refine lv_iload_n hx hb dX3_holder_2 rfl (lv_at hl 2 rfl) ?_
    refine lv_aload_n hx hb dX3_holder_3 rfl (lv_at hl 0 rfl) ?_
    refine z_get_3_2 B hW h0 q187 dX3_holder_4 ?_
    refine lv_icmp_ge (tgt := 31) hx hb dX3_holder_7 (by decide) (fun c1 => ?_) (fun c1 => ?_)
    · have hf := z_it c1 hf
      refine lv_iconst (v := -1) hx hb dX3_holder_31 (by decide) ?_
      have hf := Option.some.inj hf
      subst hf
      exact z_ri B hW dX3_holder_32
    · have hf := z_if c1 hf
      refine lv_aload_n hx hb dX3_holder_10 rfl (lv_at hl 0 rfl) ?_
      refine z_get_3_1 B hW h0 q186 dX3_holder_11 ?_
      refine lv_iload_n hx hb dX3_holder_14 rfl (lv_at hl 2 rfl) ?_
      obtain ⟨g2, hf⟩ := z_gd hf
      refine z_aa16 B hW (z_g3_1 hg h0) g2 dX3_holder_15 ?_
      refine z_getN_8_3 B hW (z_g16 hg (z_g3_1 hg h0) g2) q165 dX3_holder_16 ?_
      refine lv_iload_n hx hb dX3_holder_19 rfl (lv_at hl 1 rfl) ?_
      refine lv_icmp_ne (tgt := 25) hx hb dX3_holder_20 (by decide) (fun c3 => ?_) (fun c3 => ?_)
      · have hf := z_if c3 hf
        refine lv_iinc (v := l2 + (1 : Int32)) (lv' := [(2, .int (l2 + (1 : Int32))), (0, .ref l0), (1, .int l1)]) hx hb dX3_holder_25 hl (k := 2) rfl rfl (by decide) rfl (fun ls hl => ?_)
        refine lv_goto (tgt := 2) hx hb dX3_holder_28 (by decide) ?_
        exact ih M l0 l1 (l2 + (1 : Int32)) _ hf h0 _ _ _ hW (lv_sub hl [1, 2, 0] rfl)
      · have hf := z_it c3 hf
        refine lv_iload_n hx hb dX3_holder_23 rfl (lv_at hl 2 rfl) ?_
        have hf := Option.some.inj hf
        subst hf
        exact z_ri B hW dX3_holder_24
set_option maxHeartbeats 4000000 in
set_option maxRecDepth 100000 in
theorem f_X3_holder (l : Launch) {Γ : Zg} {M : Zm} {l0 : Nat} {l1 : Int32} {r : Int32} (hf : X3_holder Γ M l0 l1 = some r) (h0 : z_Is Γ 3 l0) : z_Fn l Γ yX3_holder cX3_holder 3 (some .int) 0 0 [.ref l0, .int l1] M (some (.int r)) M := by
  refine z_Fn.of (by decide) (Nat.le_of_ble_eq_true rfl) ?_
  intro p e s m below meth c ls B hW hl
  have B : z_Bd Γ p s m _ meth c cX3_holder 3 (some .int) RX3 := B
  have hl : lv_has ls 3 [(0, .ref l0), (1, .int l1)] := hl
  rw [X3_holder] at hf
  have hx := B.1
  have hb := B.2.1
  have hml := B.2.2.1
  have ho := B.2.2.2.1
  have hw := B.2.2.2.2.1
  have hE := B.2.2.2.2.2.1.2.2
  have hg := B.2.2.2.2.2.2.1
  refine lv_iconst (v := 0) hx hb dX3_holder_0 (by decide) ?_
  refine lv_istore_n (lv' := [(2, .int (0 : Int32)), (0, .ref l0), (1, .int l1)]) hx hb dX3_holder_1 rfl hl (by decide) rfl (fun ls hl => ?_)
  exact w_X3_holder_P2 B 1000 M l0 l1 (0 : Int32) _ hf h0 _ _ _ hW (lv_sub hl [1, 2, 0] rfl)
set_option maxHeartbeats 4000000 in
set_option maxRecDepth 100000 in
theorem f_X4_says (l : Launch) {Γ : Zg} {M : Zm} {l0 : Nat} {l1 : Nat} {l2 : Int32} {l3 : Int32} {r : Int32} (hf : X4_says M l0 l1 l2 l3 = some r) (h0 : z_Is Γ 4 l0) (h1 : z_Is Γ 8 l1) : z_Fn l Γ yX4_says cX4_says 4 (some .int) 3 63 [.ref l0, .ref l1, .int l2, .int l3] M (some (.int r)) M := by
  refine z_Fn.of (by decide) (Nat.le_of_ble_eq_true rfl) ?_
  intro p e s m below meth c ls B hW hl
  have B : z_Bd Γ p s m _ meth c cX4_says 4 (some .int) RX4 := B
  have hl : lv_has ls 4 [(0, .ref l0), (1, .ref l1), (2, .int l2), (3, .int l3)] := hl
  rw [X4_says] at hf
  have hx := B.1
  have hb := B.2.1
  have hml := B.2.2.1
  have ho := B.2.2.2.1
  have hw := B.2.2.2.2.1
  have hE := B.2.2.2.2.2.1.2.2
  have hg := B.2.2.2.2.2.2.1
  refine lv_aload_n hx hb dX4_says_0 rfl (lv_at hl 0 rfl) ?_
  refine lv_aload_n hx hb dX4_says_1 rfl (lv_at hl 1 rfl) ?_
  obtain ⟨r1, e2, hf⟩ := z_bd hf
  refine z_cU (As := [.ref l1]) (rest := []) B hW (f_X4_saysAsPerson l e2 h1) sc_X4_saysAsPerson su_X4_7_4 h0 ⟨Nat.le_of_ble_eq_true rfl, Nat.le_of_ble_eq_true rfl⟩ ⟨Nat.zero_le _, Nat.zero_le _⟩ rfl hl.1 rfl (Nat.le_of_ble_eq_true rfl) dX4_says_2 (fun H locs hW => ?_)
  have hf := Option.some.inj hf
  subst hf
  exact z_ri B hW dX4_says_5
set_option maxHeartbeats 4000000 in
set_option maxRecDepth 100000 in
theorem f_X9_says (l : Launch) {Γ : Zg} {M : Zm} {l0 : Nat} {l1 : Nat} {l2 : Int32} {l3 : Int32} (h1 : z_Is Γ 8 l1) : z_Fn l Γ yX9_says cX9_says 4 (some .int) 0 0 [.ref l0, .ref l1, .int l2, .int l3] M (some (.int (X9_says l0 l1 l2 l3))) M := by
  generalize hf : X9_says l0 l1 l2 l3 = r
  refine z_Fn.of (by decide) (Nat.le_of_ble_eq_true rfl) ?_
  intro p e s m below meth c ls B hW hl
  have B : z_Bd Γ p s m _ meth c cX9_says 4 (some .int) RX9 := B
  have hl : lv_has ls 4 [(0, .ref l0), (1, .ref l1), (2, .int l2), (3, .int l3)] := hl
  rw [X9_says] at hf
  have hx := B.1
  have hb := B.2.1
  have hml := B.2.2.1
  have ho := B.2.2.2.1
  have hw := B.2.2.2.2.1
  have hE := B.2.2.2.2.2.1.2.2
  have hg := B.2.2.2.2.2.2.1
  refine lv_iconst (v := -1) hx hb dX9_says_0 (by decide) ?_
  subst hf
  exact z_ri B hW dX9_says_1
set_option maxHeartbeats 4000000 in
set_option maxRecDepth 100000 in
theorem f_X6_says (l : Launch) {Γ : Zg} {M : Zm} {l0 : Nat} {l1 : Nat} {l2 : Int32} {l3 : Int32} {r : Int32} (hf : X6_says M l0 l1 l2 l3 = some r) (h0 : z_Is Γ 6 l0) (h1 : z_Is Γ 8 l1) : z_Fn l Γ yX6_says cX6_says 4 (some .int) 3 63 [.ref l0, .ref l1, .int l2, .int l3] M (some (.int r)) M := by
  refine z_Fn.of (by decide) (Nat.le_of_ble_eq_true rfl) ?_
  intro p e s m below meth c ls B hW hl
  have B : z_Bd Γ p s m _ meth c cX6_says 4 (some .int) RX6 := B
  have hl : lv_has ls 4 [(0, .ref l0), (1, .ref l1), (2, .int l2), (3, .int l3)] := hl
  rw [X6_says] at hf
  have hx := B.1
  have hb := B.2.1
  have hml := B.2.2.1
  have ho := B.2.2.2.1
  have hw := B.2.2.2.2.1
  have hE := B.2.2.2.2.2.1.2.2
  have hg := B.2.2.2.2.2.2.1
  refine lv_iload_n hx hb dX6_says_0 rfl (lv_at hl 3 rfl) ?_
  refine lv_bipush (v := 6) hx hb dX6_says_1 (by decide) ?_
  refine lv_irem hx hb dX6_says_3 (by decide) ?_
  refine lv_if_ne (tgt := 15) hx hb dX6_says_4 (by decide) (fun c1 => ?_) (fun c1 => ?_)
  · have hf := z_if c1 hf
    refine lv_aload_n hx hb dX6_says_15 rfl (lv_at hl 0 rfl) ?_
    refine lv_aload_n hx hb dX6_says_16 rfl (lv_at hl 1 rfl) ?_
    refine lv_iload_n hx hb dX6_says_17 rfl (lv_at hl 2 rfl) ?_
    refine lv_iload_n hx hb dX6_says_18 rfl (lv_at hl 3 rfl) ?_
    refine z_cSU (As := [.ref l1, .int l2, .int l3]) (rest := []) B hW (f_X9_says l h1) sc_X9_says ss_X6_13 (sk_6) h0 ⟨Nat.le_of_ble_eq_true rfl, Nat.le_of_ble_eq_true rfl⟩ ⟨Nat.zero_le _, Nat.zero_le _⟩ rfl hl.1 rfl (Nat.le_of_ble_eq_true rfl) dX6_says_19 (fun H locs hW => ?_)
    have hf := Option.some.inj hf
    subst hf
    exact z_ri B hW dX6_says_22
  · have hf := z_it c1 hf
    refine lv_aload_n hx hb dX6_says_7 rfl (lv_at hl 0 rfl) ?_
    refine lv_aload_n hx hb dX6_says_8 rfl (lv_at hl 1 rfl) ?_
    obtain ⟨r4, e5, hf⟩ := z_bd hf
    refine z_cU (As := [.ref l1]) (rest := []) B hW (f_X4_saysAsPerson l e5 h1) sc_X4_saysAsPerson su_X6_7_6 h0 ⟨Nat.le_of_ble_eq_true rfl, Nat.le_of_ble_eq_true rfl⟩ ⟨Nat.zero_le _, Nat.zero_le _⟩ rfl hl.1 rfl (Nat.le_of_ble_eq_true rfl) dX6_says_9 (fun H locs hW => ?_)
    refine lv_goto (tgt := 22) hx hb dX6_says_12 (by decide) ?_
    have hf := Option.some.inj hf
    subst hf
    exact z_ri B hW dX6_says_22
set_option maxHeartbeats 4000000 in
set_option maxRecDepth 100000 in
theorem f_X3_saidBy (l : Launch) {Γ : Zg} {M : Zm} {l0 : Nat} {l1 : Int32} {r : Int32} (hf : X3_saidBy Γ M l0 l1 = some r) (h0 : z_Is Γ 3 l0) : z_Fn l Γ yX3_saidBy cX3_saidBy 3 (some .int) 4 88 [.ref l0, .int l1] M (some (.int r)) M := by
  refine z_Fn.of (by decide) (Nat.le_of_ble_eq_true rfl) ?_
  intro p e s m below meth c ls B hW hl
  have B : z_Bd Γ p s m _ meth c cX3_saidBy 3 (some .int) RX3 := B
  have hl : lv_has ls 3 [(0, .ref l0), (1, .int l1)] := hl
  rw [X3_saidBy] at hf
  have hx := B.1
  have hb := B.2.1
  have hml := B.2.2.1
  have ho := B.2.2.2.1
  have hw := B.2.2.2.2.1
  have hE := B.2.2.2.2.2.1.2.2
  have hg := B.2.2.2.2.2.2.1
  refine lv_aload_n hx hb dX3_saidBy_0 rfl (lv_at hl 0 rfl) ?_
  refine z_cV (As := []) (rest := []) B hW (f_X3_hourOfDay l h0) sc_X3_hourOfDay sv_X3_46 h0 ⟨Nat.le_of_ble_eq_true rfl, Nat.le_of_ble_eq_true rfl⟩ ⟨Nat.zero_le _, Nat.zero_le _⟩ rfl hl.1 rfl (Nat.le_of_ble_eq_true rfl) dX3_saidBy_1 (fun H locs hW => ?_)
  refine lv_bipush (v := 22) hx hb dX3_saidBy_4 (by decide) ?_
  refine lv_icmp_lt (tgt := 11) hx hb dX3_saidBy_6 (by decide) (fun c3 => ?_) (fun c3 => ?_)
  · have hf := z_it c3 hf
    refine lv_aload_n hx hb dX3_saidBy_11 rfl (lv_at hl 0 rfl) ?_
    refine z_get_3_1 B hW h0 q186 dX3_saidBy_12 ?_
    refine lv_iload_n hx hb dX3_saidBy_15 rfl (lv_at hl 1 rfl) ?_
    obtain ⟨g4, hf⟩ := z_gd hf
    refine z_aa16 B hW (z_g3_1 hg h0) g4 dX3_saidBy_16 ?_
    refine lv_astore_n (lv' := [(2, .ref (z_r Γ (z_r Γ l0 1) l1.toNatClampNeg)), (0, .ref l0), (1, .int l1)]) hx hb dX3_saidBy_17 rfl hl (by decide) rfl (fun ls hl => ?_)
    refine lv_aload_n hx hb dX3_saidBy_18 rfl (lv_at hl 1 rfl) ?_
    refine z_get_3_0 B hW h0 q185 dX3_saidBy_19 ?_
    refine lv_aload_n hx hb dX3_saidBy_22 rfl (lv_at hl 0 rfl) ?_
    refine z_getN_8_0 B hW (z_g16 hg (z_g3_1 hg h0) g4) q151 dX3_saidBy_23 ?_
    obtain ⟨g5, hf⟩ := z_gd hf
    refine z_aa14 B hW (z_g3_0 hg h0) g5 dX3_saidBy_26 ?_
    refine lv_aload_n hx hb dX3_saidBy_27 rfl (lv_at hl 0 rfl) ?_
    refine lv_aload_n hx hb dX3_saidBy_28 rfl (lv_at hl 1 rfl) ?_
    refine z_get_3_3 B hW h0 q189 dX3_saidBy_29 ?_
    refine lv_aload_n hx hb dX3_saidBy_32 rfl (lv_at hl 1 rfl) ?_
    refine z_cV (As := []) (rest := [.int (M.1 l0 3), .ref (z_r Γ (z_r Γ l0 1) l1.toNatClampNeg), .ref (z_r Γ (z_r Γ l0 0) ((M.1 (z_r Γ (z_r Γ l0 1) l1.toNatClampNeg) 0).toNatClampNeg))]) B hW (f_X3_hourOfDay l h0) sc_X3_hourOfDay sv_X3_46 h0 ⟨Nat.le_of_ble_eq_true rfl, Nat.le_of_ble_eq_true rfl⟩ ⟨Nat.zero_le _, Nat.zero_le _⟩ rfl hl.1 rfl (Nat.le_of_ble_eq_true rfl) dX3_saidBy_33 (fun H locs hW => ?_)
    rcases (z_g14 hg (z_g3_0 hg h0) g5) with p8 | p8 | p8 | p8 | p8 | p8
    · have hf := z_it p8.2 hf
      obtain ⟨r9, e10, hf⟩ := z_bd hf
      refine z_cU (As := [.ref (z_r Γ (z_r Γ l0 1) l1.toNatClampNeg), .int (M.1 l0 3), .int (X3_hourOfDay M l0)]) (rest := []) B hW (f_X4_says l e10 p8 (z_g16 hg (z_g3_1 hg h0) g4)) sc_X4_says su_X3_53_4 p8 ⟨Nat.le_of_ble_eq_true rfl, Nat.le_of_ble_eq_true rfl⟩ ⟨Nat.zero_le _, Nat.zero_le _⟩ rfl hl.1 rfl (Nat.le_of_ble_eq_true rfl) dX3_saidBy_36 (fun H locs hW => ?_)
      have hf := Option.some.inj hf
      subst hf
      exact z_ri B hW dX3_saidBy_39
    · have hf := z_if (z_kne p8 (by decide)) hf
      have hf := z_it p8.2 hf
      obtain ⟨r11, e12, hf⟩ := z_bd hf
      refine z_cU (As := [.ref (z_r Γ (z_r Γ l0 1) l1.toNatClampNeg), .int (M.1 l0 3), .int (X3_hourOfDay M l0)]) (rest := []) B hW (f_X0_says l e12 (z_g16 hg (z_g3_1 hg h0) g4)) sc_X0_says su_X3_53_0 p8 ⟨Nat.le_of_ble_eq_true rfl, Nat.le_of_ble_eq_true rfl⟩ ⟨Nat.zero_le _, Nat.zero_le _⟩ rfl hl.1 rfl (Nat.le_of_ble_eq_true rfl) dX3_saidBy_36 (fun H locs hW => ?_)
      have hf := Option.some.inj hf
      subst hf
      exact z_ri B hW dX3_saidBy_39
    · have hf := z_if (z_kne p8 (by decide)) hf
      have hf := z_if (z_kne p8 (by decide)) hf
      have hf := z_it p8.2 hf
      obtain ⟨r13, e14, hf⟩ := z_bd hf
      refine z_cU (As := [.ref (z_r Γ (z_r Γ l0 1) l1.toNatClampNeg), .int (M.1 l0 3), .int (X3_hourOfDay M l0)]) (rest := []) B hW (f_X1_says l e14 p8 (z_g16 hg (z_g3_1 hg h0) g4)) sc_X1_says su_X3_53_1 p8 ⟨Nat.le_of_ble_eq_true rfl, Nat.le_of_ble_eq_true rfl⟩ ⟨Nat.zero_le _, Nat.zero_le _⟩ rfl hl.1 rfl (Nat.le_of_ble_eq_true rfl) dX3_saidBy_36 (fun H locs hW => ?_)
      have hf := Option.some.inj hf
      subst hf
      exact z_ri B hW dX3_saidBy_39
    · have hf := z_if (z_kne p8 (by decide)) hf
      have hf := z_if (z_kne p8 (by decide)) hf
      have hf := z_if (z_kne p8 (by decide)) hf
      have hf := z_it p8.2 hf
      refine z_cU (As := [.ref (z_r Γ (z_r Γ l0 1) l1.toNatClampNeg), .int (M.1 l0 3), .int (X3_hourOfDay M l0)]) (rest := []) B hW (f_X9_says l (z_g16 hg (z_g3_1 hg h0) g4)) sc_X9_says su_X3_53_9 p8 ⟨Nat.le_of_ble_eq_true rfl, Nat.le_of_ble_eq_true rfl⟩ ⟨Nat.zero_le _, Nat.zero_le _⟩ rfl hl.1 rfl (Nat.le_of_ble_eq_true rfl) dX3_saidBy_36 (fun H locs hW => ?_)
      have hf := Option.some.inj hf
      subst hf
      exact z_ri B hW dX3_saidBy_39
    · have hf := z_if (z_kne p8 (by decide)) hf
      have hf := z_if (z_kne p8 (by decide)) hf
      have hf := z_if (z_kne p8 (by decide)) hf
      have hf := z_if (z_kne p8 (by decide)) hf
      have hf := z_it p8.2 hf
      obtain ⟨r17, e18, hf⟩ := z_bd hf
      refine z_cU (As := [.ref (z_r Γ (z_r Γ l0 1) l1.toNatClampNeg), .int (M.1 l0 3), .int (X3_hourOfDay M l0)]) (rest := []) B hW (f_X2_says l e18 p8 (z_g16 hg (z_g3_1 hg h0) g4)) sc_X2_says su_X3_53_2 p8 ⟨Nat.le_of_ble_eq_true rfl, Nat.le_of_ble_eq_true rfl⟩ ⟨Nat.zero_le _, Nat.zero_le _⟩ rfl hl.1 rfl (Nat.le_of_ble_eq_true rfl) dX3_saidBy_36 (fun H locs hW => ?_)
      have hf := Option.some.inj hf
      subst hf
      exact z_ri B hW dX3_saidBy_39
    · have hf := z_if (z_kne p8 (by decide)) hf
      have hf := z_if (z_kne p8 (by decide)) hf
      have hf := z_if (z_kne p8 (by decide)) hf
      have hf := z_if (z_kne p8 (by decide)) hf
      have hf := z_if (z_kne p8 (by decide)) hf
      obtain ⟨r19, e20, hf⟩ := z_bd hf
      refine z_cU (As := [.ref (z_r Γ (z_r Γ l0 1) l1.toNatClampNeg), .int (M.1 l0 3), .int (X3_hourOfDay M l0)]) (rest := []) B hW (f_X6_says l e20 p8 (z_g16 hg (z_g3_1 hg h0) g4)) sc_X6_says su_X3_53_6 p8 ⟨Nat.le_of_ble_eq_true rfl, Nat.le_of_ble_eq_true rfl⟩ ⟨Nat.zero_le _, Nat.zero_le _⟩ rfl hl.1 rfl (Nat.le_of_ble_eq_true rfl) dX3_saidBy_36 (fun H locs hW => ?_)
      have hf := Option.some.inj hf
      subst hf
      exact z_ri B hW dX3_saidBy_39
  · have hf := z_if c3 hf
    refine lv_iconst (v := -1) hx hb dX3_saidBy_9 (by decide) ?_
    have hf := Option.some.inj hf
    subst hf
    exact z_ri B hW dX3_saidBy_10
set_option maxHeartbeats 4000000 in
set_option maxRecDepth 100000 in
theorem f_X4_believes (l : Launch) {Γ : Zg} {M : Zm} {l0 : Nat} {l1 : Int32} {l2 : Int32}  : z_Fn l Γ yX4_believes cX4_believes 3 (some .boolean) 0 0 [.ref l0, .int l1, .int l2] M (some (.int (X4_believes l0 l1 l2))) M := by
  generalize hf : X4_believes l0 l1 l2 = r
  refine z_Fn.of (by decide) (Nat.le_of_ble_eq_true rfl) ?_
  intro p e s m below meth c ls B hW hl
  have B : z_Bd Γ p s m _ meth c cX4_believes 3 (some .boolean) RX4 := B
  have hl : lv_has ls 3 [(0, .ref l0), (1, .int l1), (2, .int l2)] := hl
  rw [X4_believes] at hf
  have hx := B.1
  have hb := B.2.1
  have hml := B.2.2.1
  have ho := B.2.2.2.1
  have hw := B.2.2.2.2.1
  have hE := B.2.2.2.2.2.1.2.2
  have hg := B.2.2.2.2.2.2.1
  refine lv_iload_n hx hb dX4_believes_0 rfl (lv_at hl 1 rfl) ?_
  refine lv_if_eq (tgt := 9) hx hb dX4_believes_1 (by decide) (fun c1 => ?_) (fun c1 => ?_)
  · have hf := z_it c1 hf
    refine lv_iconst (v := 1) hx hb dX4_believes_9 (by decide) ?_
    refine lv_goto (tgt := 14) hx hb dX4_believes_10 (by decide) ?_
    subst hf
    exact z_rz B hW (Or.inr rfl) dX4_believes_14
  · have hf := z_if c1 hf
    refine lv_iload_n hx hb dX4_believes_4 rfl (lv_at hl 2 rfl) ?_
    refine lv_iconst (v := 3) hx hb dX4_believes_5 (by decide) ?_
    refine lv_icmp_ge (tgt := 13) hx hb dX4_believes_6 (by decide) (fun c2 => ?_) (fun c2 => ?_)
    · have hf := z_it c2 hf
      refine lv_iconst (v := 0) hx hb dX4_believes_13 (by decide) ?_
      subst hf
      exact z_rz B hW (Or.inl rfl) dX4_believes_14
    · have hf := z_if c2 hf
      refine lv_iconst (v := 1) hx hb dX4_believes_9 (by decide) ?_
      refine lv_goto (tgt := 14) hx hb dX4_believes_10 (by decide) ?_
      subst hf
      exact z_rz B hW (Or.inr rfl) dX4_believes_14
set_option maxHeartbeats 4000000 in
set_option maxRecDepth 100000 in
theorem f_X9_believes (l : Launch) {Γ : Zg} {M : Zm} {l0 : Nat} {l1 : Int32} {l2 : Int32} (h0 : z_Is Γ 9 l0 ∨ z_Is Γ 6 l0) : z_Fn l Γ yX9_believes cX9_believes 3 (some .boolean) 1 22 [.ref l0, .int l1, .int l2] M (some (.int (X9_believes l0 l1 l2))) M := by
  generalize hf : X9_believes l0 l1 l2 = r
  refine z_Fn.of (by decide) (Nat.le_of_ble_eq_true rfl) ?_
  intro p e s m below meth c ls B hW hl
  have B : z_Bd Γ p s m _ meth c cX9_believes 3 (some .boolean) RX9 := B
  have hl : lv_has ls 3 [(0, .ref l0), (1, .int l1), (2, .int l2)] := hl
  rw [X9_believes] at hf
  have hx := B.1
  have hb := B.2.1
  have hml := B.2.2.1
  have ho := B.2.2.2.1
  have hw := B.2.2.2.2.1
  have hE := B.2.2.2.2.2.1.2.2
  have hg := B.2.2.2.2.2.2.1
  refine lv_aload_n hx hb dX9_believes_0 rfl (lv_at hl 0 rfl) ?_
  refine lv_iload_n hx hb dX9_believes_1 rfl (lv_at hl 1 rfl) ?_
  refine lv_iload_n hx hb dX9_believes_2 rfl (lv_at hl 2 rfl) ?_
  rcases h0 with p1 | p1
  · refine z_cSU (As := [.int l1, .int l2]) (rest := []) B hW (f_X4_believes l) sc_X4_believes ss_X9_9 (sk_9) p1 ⟨Nat.le_of_ble_eq_true rfl, Nat.le_of_ble_eq_true rfl⟩ ⟨Nat.zero_le _, Nat.zero_le _⟩ rfl hl.1 rfl (Nat.le_of_ble_eq_true rfl) dX9_believes_3 (fun H locs hW => ?_)
    refine lv_if_ne (tgt := 14) hx hb dX9_believes_6 (by decide) (fun c4 => ?_) (fun c4 => ?_)
    · have hf := z_if c4 hf
      refine lv_iconst (v := 1) hx hb dX9_believes_14 (by decide) ?_
      refine lv_goto (tgt := 19) hx hb dX9_believes_15 (by decide) ?_
      subst hf
      exact z_rz B hW (Or.inr rfl) dX9_believes_19
    · have hf := z_it c4 hf
      refine lv_iload_n hx hb dX9_believes_9 rfl (lv_at hl 2 rfl) ?_
      refine lv_iconst (v := 5) hx hb dX9_believes_10 (by decide) ?_
      refine lv_icmp_lt (tgt := 18) hx hb dX9_believes_11 (by decide) (fun c5 => ?_) (fun c5 => ?_)
      · have hf := z_it c5 hf
        refine lv_iconst (v := 0) hx hb dX9_believes_18 (by decide) ?_
        subst hf
        exact z_rz B hW (Or.inl rfl) dX9_believes_19
      · have hf := z_if c5 hf
        refine lv_iconst (v := 1) hx hb dX9_believes_14 (by decide) ?_
        refine lv_goto (tgt := 19) hx hb dX9_believes_15 (by decide) ?_
        subst hf
        exact z_rz B hW (Or.inr rfl) dX9_believes_19
  · refine z_cSU (As := [.int l1, .int l2]) (rest := []) B hW (f_X4_believes l) sc_X4_believes ss_X9_9 (sk_6) p1 ⟨Nat.le_of_ble_eq_true rfl, Nat.le_of_ble_eq_true rfl⟩ ⟨Nat.zero_le _, Nat.zero_le _⟩ rfl hl.1 rfl (Nat.le_of_ble_eq_true rfl) dX9_believes_3 (fun H locs hW => ?_)
    refine lv_if_ne (tgt := 14) hx hb dX9_believes_6 (by decide) (fun c4 => ?_) (fun c4 => ?_)
    · have hf := z_if c4 hf
      refine lv_iconst (v := 1) hx hb dX9_believes_14 (by decide) ?_
      refine lv_goto (tgt := 19) hx hb dX9_believes_15 (by decide) ?_
      subst hf
      exact z_rz B hW (Or.inr rfl) dX9_believes_19
    · have hf := z_it c4 hf
      refine lv_iload_n hx hb dX9_believes_9 rfl (lv_at hl 2 rfl) ?_
      refine lv_iconst (v := 5) hx hb dX9_believes_10 (by decide) ?_
      refine lv_icmp_lt (tgt := 18) hx hb dX9_believes_11 (by decide) (fun c5 => ?_) (fun c5 => ?_)
      · have hf := z_it c5 hf
        refine lv_iconst (v := 0) hx hb dX9_believes_18 (by decide) ?_
        subst hf
        exact z_rz B hW (Or.inl rfl) dX9_believes_19
      · have hf := z_if c5 hf
        refine lv_iconst (v := 1) hx hb dX9_believes_14 (by decide) ?_
        refine lv_goto (tgt := 19) hx hb dX9_believes_15 (by decide) ?_
        subst hf
        exact z_rz B hW (Or.inr rfl) dX9_believes_19
set_option maxHeartbeats 4000000 in
set_option maxRecDepth 100000 in
theorem f_X6_believes (l : Launch) {Γ : Zg} {M : Zm} {l0 : Nat} {l1 : Int32} {l2 : Int32} (h0 : z_Is Γ 6 l0) : z_Fn l Γ yX6_believes cX6_believes 3 (some .boolean) 2 44 [.ref l0, .int l1, .int l2] M (some (.int (X6_believes l0 l1 l2))) M := by
  generalize hf : X6_believes l0 l1 l2 = r
  refine z_Fn.of (by decide) (Nat.le_of_ble_eq_true rfl) ?_
  intro p e s m below meth c ls B hW hl
  have B : z_Bd Γ p s m _ meth c cX6_believes 3 (some .boolean) RX6 := B
  have hl : lv_has ls 3 [(0, .ref l0), (1, .int l1), (2, .int l2)] := hl
  rw [X6_believes] at hf
  have hx := B.1
  have hb := B.2.1
  have hml := B.2.2.1
  have ho := B.2.2.2.1
  have hw := B.2.2.2.2.1
  have hE := B.2.2.2.2.2.1.2.2
  have hg := B.2.2.2.2.2.2.1
  refine lv_iload_n hx hb dX6_believes_0 rfl (lv_at hl 1 rfl) ?_
  refine lv_if_ne (tgt := 17) hx hb dX6_believes_1 (by decide) (fun c1 => ?_) (fun c1 => ?_)
  · have hf := z_if c1 hf
    refine lv_iconst (v := 0) hx hb dX6_believes_17 (by decide) ?_
    subst hf
    exact z_rz B hW (Or.inl rfl) dX6_believes_18
  · have hf := z_it c1 hf
    refine lv_aload_n hx hb dX6_believes_4 rfl (lv_at hl 0 rfl) ?_
    refine lv_iload_n hx hb dX6_believes_5 rfl (lv_at hl 1 rfl) ?_
    refine lv_iload_n hx hb dX6_believes_6 rfl (lv_at hl 2 rfl) ?_
    refine z_cSU (As := [.int l1, .int l2]) (rest := []) B hW (f_X9_believes l (Or.inr h0)) sc_X9_believes ss_X6_17 (sk_6) h0 ⟨Nat.le_of_ble_eq_true rfl, Nat.le_of_ble_eq_true rfl⟩ ⟨Nat.zero_le _, Nat.zero_le _⟩ rfl hl.1 rfl (Nat.le_of_ble_eq_true rfl) dX6_believes_7 (fun H locs hW => ?_)
    refine lv_if_eq (tgt := 17) hx hb dX6_believes_10 (by decide) (fun c4 => ?_) (fun c4 => ?_)
    · have hf := z_it c4 hf
      refine lv_iconst (v := 0) hx hb dX6_believes_17 (by decide) ?_
      subst hf
      exact z_rz B hW (Or.inl rfl) dX6_believes_18
    · have hf := z_if c4 hf
      refine lv_iconst (v := 1) hx hb dX6_believes_13 (by decide) ?_
      refine lv_goto (tgt := 18) hx hb dX6_believes_14 (by decide) ?_
      subst hf
      exact z_rz B hW (Or.inr rfl) dX6_believes_18
set_option maxHeartbeats 4000000 in
set_option maxRecDepth 100000 in
theorem f_X3_isTrusted (l : Launch) {Γ : Zg} {M : Zm} {l0 : Nat} {l1 : Int32} {l2 : Int32} {r : Int32} (hf : X3_isTrusted Γ M l0 l1 l2 = some r) (h0 : z_Is Γ 3 l0) : z_Fn l Γ yX3_isTrusted cX3_isTrusted 4 (some .boolean) 3 66 [.ref l0, .int l1, .int l2] M (some (.int r)) M := by
  refine z_Fn.of (by decide) (Nat.le_of_ble_eq_true rfl) ?_
  intro p e s m below meth c ls B hW hl
  have B : z_Bd Γ p s m _ meth c cX3_isTrusted 4 (some .boolean) RX3 := B
  have hl : lv_has ls 4 [(0, .ref l0), (1, .int l1), (2, .int l2)] := hl
  rw [X3_isTrusted] at hf
  have hx := B.1
  have hb := B.2.1
  have hml := B.2.2.1
  have ho := B.2.2.2.1
  have hw := B.2.2.2.2.1
  have hE := B.2.2.2.2.2.1.2.2
  have hg := B.2.2.2.2.2.2.1
  refine lv_aload_n hx hb dX3_isTrusted_0 rfl (lv_at hl 0 rfl) ?_
  refine z_get_3_1 B hW h0 q186 dX3_isTrusted_1 ?_
  refine lv_iload_n hx hb dX3_isTrusted_4 rfl (lv_at hl 1 rfl) ?_
  obtain ⟨g1, hf⟩ := z_gd hf
  refine z_aa16 B hW (z_g3_1 hg h0) g1 dX3_isTrusted_5 ?_
  refine lv_astore_n (lv' := [(3, .ref (z_r Γ (z_r Γ l0 1) l1.toNatClampNeg)), (0, .ref l0), (1, .int l1), (2, .int l2)]) hx hb dX3_isTrusted_6 rfl hl (by decide) rfl (fun ls hl => ?_)
  refine lv_aload_n hx hb dX3_isTrusted_7 rfl (lv_at hl 1 rfl) ?_
  refine z_get_3_0 B hW h0 q185 dX3_isTrusted_8 ?_
  refine lv_aload_n hx hb dX3_isTrusted_11 rfl (lv_at hl 0 rfl) ?_
  refine z_getN_8_0 B hW (z_g16 hg (z_g3_1 hg h0) g1) q151 dX3_isTrusted_12 ?_
  obtain ⟨g2, hf⟩ := z_gd hf
  refine z_aa14 B hW (z_g3_0 hg h0) g2 dX3_isTrusted_15 ?_
  refine lv_aload_n hx hb dX3_isTrusted_16 rfl (lv_at hl 1 rfl) ?_
  refine z_get_3_3 B hW h0 q189 dX3_isTrusted_17 ?_
  refine lv_iload_n hx hb dX3_isTrusted_20 rfl (lv_at hl 3 rfl) ?_
  refine z_cSN (As := [.int (M.1 l0 3), .int l2]) (rest := [.ref (z_r Γ (z_r Γ l0 0) ((M.1 (z_r Γ (z_r Γ l0 1) l1.toNatClampNeg) 0).toNatClampNeg))]) B hW (f_X10_holds l) sc_X10_holds ⟨q466, q356⟩ ⟨Nat.le_of_ble_eq_true rfl, Nat.le_of_ble_eq_true rfl⟩ ⟨Nat.zero_le _, Nat.zero_le _⟩ rfl hl.1 rfl (Nat.le_of_ble_eq_true rfl) dX3_isTrusted_21 (fun H locs hW => ?_)
  refine lv_aload_n hx hb dX3_isTrusted_24 rfl (lv_at hl 0 rfl) ?_
  refine z_getN_8_1 B hW (z_g16 hg (z_g3_1 hg h0) g1) q158 dX3_isTrusted_25 ?_
  refine z_cS (As := [.int (M.1 (z_r Γ (z_r Γ l0 1) l1.toNatClampNeg) 1)]) (rest := [.int (X10_holds (M.1 l0 3) l2), .ref (z_r Γ (z_r Γ l0 0) ((M.1 (z_r Γ (z_r Γ l0 1) l1.toNatClampNeg) 0).toNatClampNeg))]) B hW (f_J6_bitCount_0f7a4 l) sc_J6_bitCount_0f7a4 ⟨q467, q407⟩ ⟨Nat.le_of_ble_eq_true rfl, Nat.le_of_ble_eq_true rfl⟩ ⟨Nat.zero_le _, Nat.zero_le _⟩ rfl hl.1 rfl (Nat.le_of_ble_eq_true rfl) dX3_isTrusted_28 (fun H locs hW => ?_)
  rcases (z_g14 hg (z_g3_0 hg h0) g2) with p7 | p7 | p7 | p7 | p7 | p7
  · have hf := z_it p7.2 hf
    refine z_cU (As := [.int (X10_holds (M.1 l0 3) l2), .int (J6_bitCount_0f7a4 (M.1 (z_r Γ (z_r Γ l0 1) l1.toNatClampNeg) 1))]) (rest := []) B hW (f_X4_believes l) sc_X4_believes su_X3_72_4 p7 ⟨Nat.le_of_ble_eq_true rfl, Nat.le_of_ble_eq_true rfl⟩ ⟨Nat.zero_le _, Nat.zero_le _⟩ rfl hl.1 rfl (Nat.le_of_ble_eq_true rfl) dX3_isTrusted_31 (fun H locs hW => ?_)
    obtain ⟨g10, hf⟩ := z_gp hf
    have hf := Option.some.inj hf
    subst hf
    exact z_rz B hW g10 dX3_isTrusted_34
  · have hf := z_if (z_kne p7 (by decide)) hf
    have hf := z_it p7.2 hf
    refine z_cU (As := [.int (X10_holds (M.1 l0 3) l2), .int (J6_bitCount_0f7a4 (M.1 (z_r Γ (z_r Γ l0 1) l1.toNatClampNeg) 1))]) (rest := []) B hW (f_X0_believes l) sc_X0_believes su_X3_72_0 p7 ⟨Nat.le_of_ble_eq_true rfl, Nat.le_of_ble_eq_true rfl⟩ ⟨Nat.zero_le _, Nat.zero_le _⟩ rfl hl.1 rfl (Nat.le_of_ble_eq_true rfl) dX3_isTrusted_31 (fun H locs hW => ?_)
    obtain ⟨g13, hf⟩ := z_gp hf
    have hf := Option.some.inj hf
    subst hf
    exact z_rz B hW g13 dX3_isTrusted_34
  · have hf := z_if (z_kne p7 (by decide)) hf
    have hf := z_if (z_kne p7 (by decide)) hf
    have hf := z_it p7.2 hf
    refine z_cU (As := [.int (X10_holds (M.1 l0 3) l2), .int (J6_bitCount_0f7a4 (M.1 (z_r Γ (z_r Γ l0 1) l1.toNatClampNeg) 1))]) (rest := []) B hW (f_X1_believes l) sc_X1_believes su_X3_72_1 p7 ⟨Nat.le_of_ble_eq_true rfl, Nat.le_of_ble_eq_true rfl⟩ ⟨Nat.zero_le _, Nat.zero_le _⟩ rfl hl.1 rfl (Nat.le_of_ble_eq_true rfl) dX3_isTrusted_31 (fun H locs hW => ?_)
    obtain ⟨g16, hf⟩ := z_gp hf
    have hf := Option.some.inj hf
    subst hf
    exact z_rz B hW g16 dX3_isTrusted_34
  · have hf := z_if (z_kne p7 (by decide)) hf
    have hf := z_if (z_kne p7 (by decide)) hf
    have hf := z_if (z_kne p7 (by decide)) hf
    have hf := z_it p7.2 hf
    refine z_cU (As := [.int (X10_holds (M.1 l0 3) l2), .int (J6_bitCount_0f7a4 (M.1 (z_r Γ (z_r Γ l0 1) l1.toNatClampNeg) 1))]) (rest := []) B hW (f_X9_believes l (Or.inl p7)) sc_X9_believes su_X3_72_9 p7 ⟨Nat.le_of_ble_eq_true rfl, Nat.le_of_ble_eq_true rfl⟩ ⟨Nat.zero_le _, Nat.zero_le _⟩ rfl hl.1 rfl (Nat.le_of_ble_eq_true rfl) dX3_isTrusted_31 (fun H locs hW => ?_)
    obtain ⟨g19, hf⟩ := z_gp hf
    have hf := Option.some.inj hf
    subst hf
    exact z_rz B hW g19 dX3_isTrusted_34
  · have hf := z_if (z_kne p7 (by decide)) hf
    have hf := z_if (z_kne p7 (by decide)) hf
    have hf := z_if (z_kne p7 (by decide)) hf
    have hf := z_if (z_kne p7 (by decide)) hf
    have hf := z_it p7.2 hf
    refine z_cU (As := [.int (X10_holds (M.1 l0 3) l2), .int (J6_bitCount_0f7a4 (M.1 (z_r Γ (z_r Γ l0 1) l1.toNatClampNeg) 1))]) (rest := []) B hW (f_X0_believes l) sc_X0_believes su_X3_72_2 p7 ⟨Nat.le_of_ble_eq_true rfl, Nat.le_of_ble_eq_true rfl⟩ ⟨Nat.zero_le _, Nat.zero_le _⟩ rfl hl.1 rfl (Nat.le_of_ble_eq_true rfl) dX3_isTrusted_31 (fun H locs hW => ?_)
    obtain ⟨g22, hf⟩ := z_gp hf
    have hf := Option.some.inj hf
    subst hf
    exact z_rz B hW g22 dX3_isTrusted_34
  · have hf := z_if (z_kne p7 (by decide)) hf
    have hf := z_if (z_kne p7 (by decide)) hf
    have hf := z_if (z_kne p7 (by decide)) hf
    have hf := z_if (z_kne p7 (by decide)) hf
    have hf := z_if (z_kne p7 (by decide)) hf
    refine z_cU (As := [.int (X10_holds (M.1 l0 3) l2), .int (J6_bitCount_0f7a4 (M.1 (z_r Γ (z_r Γ l0 1) l1.toNatClampNeg) 1))]) (rest := []) B hW (f_X6_believes l p7) sc_X6_believes su_X3_72_6 p7 ⟨Nat.le_of_ble_eq_true rfl, Nat.le_of_ble_eq_true rfl⟩ ⟨Nat.zero_le _, Nat.zero_le _⟩ rfl hl.1 rfl (Nat.le_of_ble_eq_true rfl) dX3_isTrusted_31 (fun H locs hW => ?_)
    obtain ⟨g25, hf⟩ := z_gp hf
    have hf := Option.some.inj hf
    subst hf
    exact z_rz B hW g25 dX3_isTrusted_34
set_option maxHeartbeats 4000000 in
set_option maxRecDepth 100000 in
theorem f_X9_stays (l : Launch) {Γ : Zg} {M : Zm} {l0 : Nat} {l1 : Nat} (h0 : z_Is Γ 9 l0 ∨ z_Is Γ 6 l0) (h1 : z_Is Γ 8 l1) : z_Fn l Γ yX9_stays cX9_stays 2 (some .int) 1 21 [.ref l0, .ref l1] M (some (.int (X9_stays l0 l1))) M := by
  generalize hf : X9_stays l0 l1 = r
  refine z_Fn.of (by decide) (Nat.le_of_ble_eq_true rfl) ?_
  intro p e s m below meth c ls B hW hl
  have B : z_Bd Γ p s m _ meth c cX9_stays 2 (some .int) RX9 := B
  have hl : lv_has ls 2 [(0, .ref l0), (1, .ref l1)] := hl
  rw [X9_stays] at hf
  have hx := B.1
  have hb := B.2.1
  have hml := B.2.2.1
  have ho := B.2.2.2.1
  have hw := B.2.2.2.2.1
  have hE := B.2.2.2.2.2.1.2.2
  have hg := B.2.2.2.2.2.2.1
  refine lv_iconst (v := 2) hx hb dX9_stays_0 (by decide) ?_
  refine lv_aload_n hx hb dX9_stays_1 rfl (lv_at hl 0 rfl) ?_
  refine lv_aload_n hx hb dX9_stays_2 rfl (lv_at hl 1 rfl) ?_
  rcases h0 with p1 | p1
  · refine z_cSU (As := [.ref l1]) (rest := [.int (2 : Int32)]) B hW (f_X4_stays l h1) sc_X4_stays ss_X9_13 (sk_9) p1 ⟨Nat.le_of_ble_eq_true rfl, Nat.le_of_ble_eq_true rfl⟩ ⟨Nat.zero_le _, Nat.zero_le _⟩ rfl hl.1 rfl (Nat.le_of_ble_eq_true rfl) dX9_stays_3 (fun H locs hW => ?_)
    refine lv_imul hx hb dX9_stays_6 ?_
    subst hf
    exact z_ri B hW dX9_stays_7
  · refine z_cSU (As := [.ref l1]) (rest := [.int (2 : Int32)]) B hW (f_X4_stays l h1) sc_X4_stays ss_X9_13 (sk_6) p1 ⟨Nat.le_of_ble_eq_true rfl, Nat.le_of_ble_eq_true rfl⟩ ⟨Nat.zero_le _, Nat.zero_le _⟩ rfl hl.1 rfl (Nat.le_of_ble_eq_true rfl) dX9_stays_3 (fun H locs hW => ?_)
    refine lv_imul hx hb dX9_stays_6 ?_
    subst hf
    exact z_ri B hW dX9_stays_7
set_option maxHeartbeats 4000000 in
set_option maxRecDepth 100000 in
theorem f_X3_stayOf (l : Launch) {Γ : Zg} {M : Zm} {l0 : Nat} {l1 : Int32} {r : Int32} (hf : X3_stayOf Γ M l0 l1 = some r) (h0 : z_Is Γ 3 l0) : z_Fn l Γ yX3_stayOf cX3_stayOf 3 (some .int) 3 63 [.ref l0, .int l1] M (some (.int r)) M := by
  refine z_Fn.of (by decide) (Nat.le_of_ble_eq_true rfl) ?_
  intro p e s m below meth c ls B hW hl
  have B : z_Bd Γ p s m _ meth c cX3_stayOf 3 (some .int) RX3 := B
  have hl : lv_has ls 3 [(0, .ref l0), (1, .int l1)] := hl
  rw [X3_stayOf] at hf
  have hx := B.1
  have hb := B.2.1
  have hml := B.2.2.1
  have ho := B.2.2.2.1
  have hw := B.2.2.2.2.1
  have hE := B.2.2.2.2.2.1.2.2
  have hg := B.2.2.2.2.2.2.1
  refine lv_aload_n hx hb dX3_stayOf_0 rfl (lv_at hl 0 rfl) ?_
  refine z_get_3_1 B hW h0 q186 dX3_stayOf_1 ?_
  refine lv_iload_n hx hb dX3_stayOf_4 rfl (lv_at hl 1 rfl) ?_
  obtain ⟨g1, hf⟩ := z_gd hf
  refine z_aa16 B hW (z_g3_1 hg h0) g1 dX3_stayOf_5 ?_
  refine lv_astore_n (lv' := [(2, .ref (z_r Γ (z_r Γ l0 1) l1.toNatClampNeg)), (0, .ref l0), (1, .int l1)]) hx hb dX3_stayOf_6 rfl hl (by decide) rfl (fun ls hl => ?_)
  refine lv_aload_n hx hb dX3_stayOf_7 rfl (lv_at hl 1 rfl) ?_
  refine z_get_3_0 B hW h0 q185 dX3_stayOf_8 ?_
  refine lv_aload_n hx hb dX3_stayOf_11 rfl (lv_at hl 0 rfl) ?_
  refine z_getN_8_0 B hW (z_g16 hg (z_g3_1 hg h0) g1) q151 dX3_stayOf_12 ?_
  obtain ⟨g2, hf⟩ := z_gd hf
  refine z_aa14 B hW (z_g3_0 hg h0) g2 dX3_stayOf_15 ?_
  refine lv_aload_n hx hb dX3_stayOf_16 rfl (lv_at hl 0 rfl) ?_
  rcases (z_g14 hg (z_g3_0 hg h0) g2) with p3 | p3 | p3 | p3 | p3 | p3
  · have hf := z_it p3.2 hf
    refine z_cU (As := [.ref (z_r Γ (z_r Γ l0 1) l1.toNatClampNeg)]) (rest := []) B hW (f_X4_stays l (z_g16 hg (z_g3_1 hg h0) g1)) sc_X4_stays su_X3_76_4 p3 ⟨Nat.le_of_ble_eq_true rfl, Nat.le_of_ble_eq_true rfl⟩ ⟨Nat.zero_le _, Nat.zero_le _⟩ rfl hl.1 rfl (Nat.le_of_ble_eq_true rfl) dX3_stayOf_17 (fun H locs hW => ?_)
    have hf := Option.some.inj hf
    subst hf
    exact z_ri B hW dX3_stayOf_20
  · have hf := z_if (z_kne p3 (by decide)) hf
    have hf := z_it p3.2 hf
    refine z_cU (As := [.ref (z_r Γ (z_r Γ l0 1) l1.toNatClampNeg)]) (rest := []) B hW (f_X0_stays l (Or.inl p3) (z_g16 hg (z_g3_1 hg h0) g1)) sc_X0_stays su_X3_76_0 p3 ⟨Nat.le_of_ble_eq_true rfl, Nat.le_of_ble_eq_true rfl⟩ ⟨Nat.zero_le _, Nat.zero_le _⟩ rfl hl.1 rfl (Nat.le_of_ble_eq_true rfl) dX3_stayOf_17 (fun H locs hW => ?_)
    have hf := Option.some.inj hf
    subst hf
    exact z_ri B hW dX3_stayOf_20
  · have hf := z_if (z_kne p3 (by decide)) hf
    have hf := z_if (z_kne p3 (by decide)) hf
    have hf := z_it p3.2 hf
    refine z_cU (As := [.ref (z_r Γ (z_r Γ l0 1) l1.toNatClampNeg)]) (rest := []) B hW (f_X1_stays l (z_g16 hg (z_g3_1 hg h0) g1)) sc_X1_stays su_X3_76_1 p3 ⟨Nat.le_of_ble_eq_true rfl, Nat.le_of_ble_eq_true rfl⟩ ⟨Nat.zero_le _, Nat.zero_le _⟩ rfl hl.1 rfl (Nat.le_of_ble_eq_true rfl) dX3_stayOf_17 (fun H locs hW => ?_)
    have hf := Option.some.inj hf
    subst hf
    exact z_ri B hW dX3_stayOf_20
  · have hf := z_if (z_kne p3 (by decide)) hf
    have hf := z_if (z_kne p3 (by decide)) hf
    have hf := z_if (z_kne p3 (by decide)) hf
    have hf := z_it p3.2 hf
    refine z_cU (As := [.ref (z_r Γ (z_r Γ l0 1) l1.toNatClampNeg)]) (rest := []) B hW (f_X9_stays l (Or.inl p3) (z_g16 hg (z_g3_1 hg h0) g1)) sc_X9_stays su_X3_76_9 p3 ⟨Nat.le_of_ble_eq_true rfl, Nat.le_of_ble_eq_true rfl⟩ ⟨Nat.zero_le _, Nat.zero_le _⟩ rfl hl.1 rfl (Nat.le_of_ble_eq_true rfl) dX3_stayOf_17 (fun H locs hW => ?_)
    have hf := Option.some.inj hf
    subst hf
    exact z_ri B hW dX3_stayOf_20
  · have hf := z_if (z_kne p3 (by decide)) hf
    have hf := z_if (z_kne p3 (by decide)) hf
    have hf := z_if (z_kne p3 (by decide)) hf
    have hf := z_if (z_kne p3 (by decide)) hf
    have hf := z_it p3.2 hf
    refine z_cU (As := [.ref (z_r Γ (z_r Γ l0 1) l1.toNatClampNeg)]) (rest := []) B hW (f_X2_stays l p3 (z_g16 hg (z_g3_1 hg h0) g1)) sc_X2_stays su_X3_76_2 p3 ⟨Nat.le_of_ble_eq_true rfl, Nat.le_of_ble_eq_true rfl⟩ ⟨Nat.zero_le _, Nat.zero_le _⟩ rfl hl.1 rfl (Nat.le_of_ble_eq_true rfl) dX3_stayOf_17 (fun H locs hW => ?_)
    have hf := Option.some.inj hf
    subst hf
    exact z_ri B hW dX3_stayOf_20
  · have hf := z_if (z_kne p3 (by decide)) hf
    have hf := z_if (z_kne p3 (by decide)) hf
    have hf := z_if (z_kne p3 (by decide)) hf
    have hf := z_if (z_kne p3 (by decide)) hf
    have hf := z_if (z_kne p3 (by decide)) hf
    refine z_cU (As := [.ref (z_r Γ (z_r Γ l0 1) l1.toNatClampNeg)]) (rest := []) B hW (f_X9_stays l (Or.inr p3) (z_g16 hg (z_g3_1 hg h0) g1)) sc_X9_stays su_X3_76_6 p3 ⟨Nat.le_of_ble_eq_true rfl, Nat.le_of_ble_eq_true rfl⟩ ⟨Nat.zero_le _, Nat.zero_le _⟩ rfl hl.1 rfl (Nat.le_of_ble_eq_true rfl) dX3_stayOf_17 (fun H locs hW => ?_)
    have hf := Option.some.inj hf
    subst hf
    exact z_ri B hW dX3_stayOf_20
set_option maxHeartbeats 4000000 in
set_option maxRecDepth 100000 in
theorem f_X8_hearItself (l : Launch) {Γ : Zg} {M : Zm} {l0 : Nat} {l1 : Int32} {M' : Zm} (hf : X8_hearItself M l0 l1 = M') (h0 : z_Is Γ 8 l0) : z_Fn l Γ yX8_hearItself cX8_hearItself 2 none 1 21 [.ref l0, .int l1] M none M' := by
  refine z_Fn.of (by decide) (Nat.le_of_ble_eq_true rfl) ?_
  intro p e s m below meth c ls B hW hl
  have B : z_Bd Γ p s m _ meth c cX8_hearItself 2 none RX8 := B
  have hl : lv_has ls 2 [(0, .ref l0), (1, .int l1)] := hl
  rw [X8_hearItself] at hf
  have hx := B.1
  have hb := B.2.1
  have hml := B.2.2.1
  have ho := B.2.2.2.1
  have hw := B.2.2.2.2.1
  have hE := B.2.2.2.2.2.1.2.2
  have hg := B.2.2.2.2.2.2.1
  refine lv_aload_n hx hb dX8_hearItself_0 rfl (lv_at hl 0 rfl) ?_
  refine z_get_8_1 B hW h0 q153 dX8_hearItself_1 ?_
  refine lv_iload_n hx hb dX8_hearItself_4 rfl (lv_at hl 1 rfl) ?_
  refine z_cSN (As := [.int (M.1 l0 1), .int l1]) (rest := []) B hW (f_X10_holds l) sc_X10_holds ⟨q511, q356⟩ ⟨Nat.le_of_ble_eq_true rfl, Nat.le_of_ble_eq_true rfl⟩ ⟨Nat.zero_le _, Nat.zero_le _⟩ rfl hl.1 rfl (Nat.le_of_ble_eq_true rfl) dX8_hearItself_5 (fun H locs hW => ?_)
  refine lv_if_eq (tgt := 23) hx hb dX8_hearItself_8 (by decide) (fun c3 => ?_) (fun c3 => ?_)
  · have hf := z_it c3 hf
    subst hf
    exact z_rv B hW dX8_hearItself_23
  · have hf := z_if c3 hf
    refine lv_aload_n hx hb dX8_hearItself_11 rfl (lv_at hl 0 rfl) ?_
    refine lv_dup hx hb dX8_hearItself_12 rfl ?_
    refine z_get_8_2 B hW h0 q159 dX8_hearItself_13 ?_
    refine lv_iconst (v := 1) hx hb dX8_hearItself_16 (by decide) ?_
    refine lv_iload_n hx hb dX8_hearItself_17 rfl (lv_at hl 1 rfl) ?_
    refine lv_ishl hx hb dX8_hearItself_18 ?_
    refine lv_ior hx hb dX8_hearItself_19 ?_
    refine z_put_8_2 B hW h0 q159 dX8_hearItself_20 (fun H locs hW => ?_)
    obtain ⟨M4, e5, hf⟩ := z_le hf
    have hW := z_wde e5 hW
    subst hf
    exact z_rv B hW dX8_hearItself_23
set_option maxHeartbeats 4000000 in
set_option maxRecDepth 100000 in
theorem w_X8_hear_P36 (B : z_Bd Γ p s m args meth c cX8_hear 4 none RX8) : ∀ (M : Zm) (l0 : Nat) (s0 : Nat) (s1 : Int32) (M' : Zm), X8_hear_P36 M l0 s0 s1 = M' → z_Is Γ 8 l0 → z_Is Γ 8 s0 → ∀ (H : Heap) (locs : List Loc) (ls : Array Slot), z_Wd Γ M s.heap H locs → lv_has ls 4 [(0, .ref l0)] → W p l e (z_rm 1 40) s m args below meth c H locs 0 0 (z_Q Γ below args s none M') (F0 m 36 ls [.int s1, .ref s0]) := by
  have hx := B.1
  have hb := B.2.1
  have hml := B.2.2.1
  have ho := B.2.2.2.1
  have hw := B.2.2.2.2.1
  have hE := B.2.2.2.2.2.1.2.2
  have hg := B.2.2.2.2.2.2.1
  intro M l0 s0 s1 M' hf h0 hs0 H locs ls hW hl
  rw [X8_hear_P36] at hf
  refine z_put_8_2 B hW hs0 q159 dX8_hear_36 (fun H locs hW => ?_)
  obtain ⟨M4, e5, hf⟩ := z_le hf
  have hW := z_wde e5 hW
  refine lv_aload_n hx hb dX8_hear_39 rfl (lv_at hl 0 rfl) ?_
  refine lv_aload_n hx hb dX8_hear_40 rfl (lv_at hl 0 rfl) ?_
  refine z_get_8_5 B hW h0 q169 dX8_hear_41 ?_
  refine lv_iconst (v := 1) hx hb dX8_hear_44 (by decide) ?_
  refine lv_iadd hx hb dX8_hear_45 ?_
  refine lv_sipush (v := 9999) hx hb dX8_hear_46 (by decide) ?_
  refine va_mmin hx hb (hml.trans hl.1.symm) ho (hw _ q517) (hw _ q518) (hw _ q79) (hw _ q519) (Nat.le_of_ble_eq_true rfl) (Nat.le_of_ble_eq_true rfl) (Nat.zero_le _) (Nat.zero_le _) dX8_hear_49 ?_
  refine z_put_8_5 B hW h0 q169 dX8_hear_52 (fun H locs hW => ?_)
  obtain ⟨M6, e7, hf⟩ := z_le hf
  have hW := z_wde e7 hW
  subst hf
  exact z_rv B hW dX8_hear_55
set_option maxHeartbeats 4000000 in
set_option maxRecDepth 100000 in
theorem f_X8_hear (l : Launch) {Γ : Zg} {M : Zm} {l0 : Nat} {l1 : Int32} {l2 : Int32} {M' : Zm} (hf : X8_hear M l0 l1 l2 = M') (h0 : z_Is Γ 8 l0) : z_Fn l Γ yX8_hear cX8_hear 4 none 1 40 [.ref l0, .int l1, .int l2] M none M' := by
  refine z_Fn.of (by decide) (Nat.le_of_ble_eq_true rfl) ?_
  intro p e s m below meth c ls B hW hl
  have B : z_Bd Γ p s m _ meth c cX8_hear 4 none RX8 := B
  have hl : lv_has ls 4 [(0, .ref l0), (1, .int l1), (2, .int l2)] := hl
  rw [X8_hear] at hf
  have hx := B.1
  have hb := B.2.1
  have hml := B.2.2.1
  have ho := B.2.2.2.1
  have hw := B.2.2.2.2.1
  have hE := B.2.2.2.2.2.1.2.2
  have hg := B.2.2.2.2.2.2.1
  refine lv_iconst (v := 1) hx hb dX8_hear_0 (by decide) ?_
  refine lv_iload_n hx hb dX8_hear_1 rfl (lv_at hl 1 rfl) ?_
  refine lv_ishl hx hb dX8_hear_2 ?_
  refine lv_istore_n (lv' := [(3, .int ((1 : Int32) <<< (l1 &&& 31))), (0, .ref l0), (1, .int l1), (2, .int l2)]) hx hb dX8_hear_3 rfl hl (by decide) rfl (fun ls hl => ?_)
  refine lv_aload_n hx hb dX8_hear_4 rfl (lv_at hl 1 rfl) ?_
  refine lv_dup hx hb dX8_hear_5 rfl ?_
  refine z_get_8_1 B hW h0 q153 dX8_hear_6 ?_
  refine lv_iload_n hx hb dX8_hear_9 rfl (lv_at hl 0 rfl) ?_
  refine lv_ior hx hb dX8_hear_10 ?_
  refine z_put_8_1 B hW h0 q153 dX8_hear_11 (fun H locs hW => ?_)
  obtain ⟨M1, e2, hf⟩ := z_le hf
  have hW := z_wde e2 hW
  refine lv_aload_n hx hb dX8_hear_14 rfl (lv_at hl 1 rfl) ?_
  refine lv_iload_n hx hb dX8_hear_15 rfl (lv_at hl 3 rfl) ?_
  refine lv_if_eq (tgt := 28) hx hb dX8_hear_16 (by decide) (fun c3 => ?_) (fun c3 => ?_)
  · have hf := z_it c3 hf
    refine lv_aload_n hx hb dX8_hear_28 rfl (lv_at hl 1 rfl) ?_
    refine z_get_8_2 B hW h0 q159 dX8_hear_29 ?_
    refine lv_iload_n hx hb dX8_hear_32 rfl (lv_at hl 0 rfl) ?_
    refine lv_iconst (v := -1) hx hb dX8_hear_33 (by decide) ?_
    refine lv_ixor hx hb dX8_hear_34 ?_
    refine lv_iand hx hb dX8_hear_35 ?_
    exact w_X8_hear_P36 B M1 l0 l0 ((M1.1 l0 2) &&& (((1 : Int32) <<< (l1 &&& 31)) ^^^ (-1 : Int32))) _ hf h0 h0 _ _ _ hW (lv_sub hl [1] rfl)
  · have hf := z_if c3 hf
    refine lv_aload_n hx hb dX8_hear_19 rfl (lv_at hl 1 rfl) ?_
    refine z_get_8_2 B hW h0 q159 dX8_hear_20 ?_
    refine lv_iload_n hx hb dX8_hear_23 rfl (lv_at hl 0 rfl) ?_
    refine lv_ior hx hb dX8_hear_24 ?_
    refine lv_goto (tgt := 36) hx hb dX8_hear_25 (by decide) ?_
    exact w_X8_hear_P36 B M1 l0 l0 ((M1.1 l0 2) ||| ((1 : Int32) <<< (l1 &&& 31))) _ hf h0 h0 _ _ _ hW (lv_sub hl [1] rfl)
set_option maxHeartbeats 4000000 in
set_option maxRecDepth 100000 in
theorem f_X3_bring (l : Launch) {Γ : Zg} {M : Zm} {l0 : Nat} {l1 : Int32} {l2 : Int32} {l3 : Int32} {M' : Zm} (hf : X3_bring Γ M l0 l1 l2 l3 = some M') (h0 : z_Is Γ 3 l0) : z_Fn l Γ yX3_bring cX3_bring 5 none 4 89 [.ref l0, .int l1, .int l2, .int l3] M none M' := by
  refine z_Fn.of (by decide) (Nat.le_of_ble_eq_true rfl) ?_
  intro p e s m below meth c ls B hW hl
  have B : z_Bd Γ p s m _ meth c cX3_bring 5 none RX3 := B
  have hl : lv_has ls 5 [(0, .ref l0), (1, .int l1), (2, .int l2), (3, .int l3)] := hl
  rw [X3_bring] at hf
  have hx := B.1
  have hb := B.2.1
  have hml := B.2.2.1
  have ho := B.2.2.2.1
  have hw := B.2.2.2.2.1
  have hE := B.2.2.2.2.2.1.2.2
  have hg := B.2.2.2.2.2.2.1
  refine lv_aload_n hx hb dX3_bring_0 rfl (lv_at hl 0 rfl) ?_
  refine z_get_3_1 B hW h0 q186 dX3_bring_1 ?_
  refine lv_iload_n hx hb dX3_bring_4 rfl (lv_at hl 1 rfl) ?_
  obtain ⟨g1, hf⟩ := z_gd hf
  refine z_aa16 B hW (z_g3_1 hg h0) g1 dX3_bring_5 ?_
  refine lv_astore (lv' := [(4, .ref (z_r Γ (z_r Γ l0 1) l1.toNatClampNeg)), (0, .ref l0), (1, .int l1), (2, .int l2), (3, .int l3)]) hx hb dX3_bring_6 hl (by decide) rfl (fun ls hl => ?_)
  refine lv_aload_n hx hb dX3_bring_8 rfl (lv_at hl 1 rfl) ?_
  refine z_cV (As := []) (rest := []) B hW (f_X3_isMonday l h0) sc_X3_isMonday sv_X3_97 h0 ⟨Nat.le_of_ble_eq_true rfl, Nat.le_of_ble_eq_true rfl⟩ ⟨Nat.zero_le _, Nat.zero_le _⟩ rfl hl.1 rfl (Nat.le_of_ble_eq_true rfl) dX3_bring_9 (fun H locs hW => ?_)
  refine lv_if_eq (tgt := 29) hx hb dX3_bring_12 (by decide) (fun c4 => ?_) (fun c4 => ?_)
  · have hf := z_it c4 hf
    refine lv_iload_n hx hb dX3_bring_29 rfl (lv_at hl 4 rfl) ?_
    refine lv_iconst (v := -1) hx hb dX3_bring_30 (by decide) ?_
    refine lv_icmp_eq (tgt := 46) hx hb dX3_bring_31 (by decide) (fun c5 => ?_) (fun c5 => ?_)
    · have hf := z_it c5 hf
      have hf := Option.some.inj hf
      subst hf
      exact z_rv B hW dX3_bring_46
    · have hf := z_if c5 hf
      refine lv_aload hx hb dX3_bring_34 (lv_at hl 0 rfl) ?_
      refine lv_iload_n hx hb dX3_bring_36 rfl (lv_at hl 4 rfl) ?_
      refine lv_aload_n hx hb dX3_bring_37 rfl (lv_at hl 1 rfl) ?_
      refine lv_iload_n hx hb dX3_bring_38 rfl (lv_at hl 2 rfl) ?_
      refine lv_iload_n hx hb dX3_bring_39 rfl (lv_at hl 4 rfl) ?_
      obtain ⟨r6, e7, hf⟩ := z_bd hf
      refine z_cV (As := [.int l1, .int l3]) (rest := [.int l3, .ref (z_r Γ (z_r Γ l0 1) l1.toNatClampNeg)]) B hW (f_X3_isTrusted l e7 h0) sc_X3_isTrusted sv_X3_104 h0 ⟨Nat.le_of_ble_eq_true rfl, Nat.le_of_ble_eq_true rfl⟩ ⟨Nat.zero_le _, Nat.zero_le _⟩ rfl hl.1 rfl (Nat.le_of_ble_eq_true rfl) dX3_bring_40 (fun H locs hW => ?_)
      obtain ⟨M9, e10, hf⟩ := z_le hf
      refine z_cV (As := [.int l3, .int r6]) (rest := []) B hW (f_X8_hear l e10 (z_g16 hg (z_g3_1 hg h0) g1)) sc_X8_hear sv_X3_107 (z_g16 hg (z_g3_1 hg h0) g1) ⟨Nat.le_of_ble_eq_true rfl, Nat.le_of_ble_eq_true rfl⟩ ⟨Nat.zero_le _, Nat.zero_le _⟩ rfl hl.1 rfl (Nat.le_of_ble_eq_true rfl) dX3_bring_43 (fun H locs hW => ?_)
      have hf := Option.some.inj hf
      subst hf
      exact z_rv B hW dX3_bring_46
  · have hf := z_if c4 hf
    refine lv_iload_n hx hb dX3_bring_15 rfl (lv_at hl 3 rfl) ?_
    refine lv_iconst (v := -1) hx hb dX3_bring_16 (by decide) ?_
    refine lv_icmp_eq (tgt := 46) hx hb dX3_bring_17 (by decide) (fun c11 => ?_) (fun c11 => ?_)
    · have hf := z_it c11 hf
      have hf := Option.some.inj hf
      subst hf
      exact z_rv B hW dX3_bring_46
    · have hf := z_if c11 hf
      refine lv_aload hx hb dX3_bring_20 (lv_at hl 0 rfl) ?_
      refine lv_iload_n hx hb dX3_bring_22 rfl (lv_at hl 3 rfl) ?_
      obtain ⟨M13, e14, hf⟩ := z_le hf
      refine z_cV (As := [.int l2]) (rest := []) B hW (f_X8_hearItself l e14 (z_g16 hg (z_g3_1 hg h0) g1)) sc_X8_hearItself sv_X3_101 (z_g16 hg (z_g3_1 hg h0) g1) ⟨Nat.le_of_ble_eq_true rfl, Nat.le_of_ble_eq_true rfl⟩ ⟨Nat.zero_le _, Nat.zero_le _⟩ rfl hl.1 rfl (Nat.le_of_ble_eq_true rfl) dX3_bring_23 (fun H locs hW => ?_)
      refine lv_goto (tgt := 46) hx hb dX3_bring_26 (by decide) ?_
      have hf := Option.some.inj hf
      subst hf
      exact z_rv B hW dX3_bring_46
set_option maxHeartbeats 4000000 in
set_option maxRecDepth 100000 in
theorem f_X3_sitOn (l : Launch) {Γ : Zg} {M : Zm} {l0 : Nat} {l1 : Int32} {r : Int32} {M' : Zm} (hf : X3_sitOn Γ M l0 l1 = some (r, M')) (h0 : z_Is Γ 3 l0) : z_Fn l Γ yX3_sitOn cX3_sitOn 3 (some .int) 4 85 [.ref l0, .int l1] M (some (.int r)) M' := by
  refine z_Fn.of (by decide) (Nat.le_of_ble_eq_true rfl) ?_
  intro p e s m below meth c ls B hW hl
  have B : z_Bd Γ p s m _ meth c cX3_sitOn 3 (some .int) RX3 := B
  have hl : lv_has ls 3 [(0, .ref l0), (1, .int l1)] := hl
  rw [X3_sitOn] at hf
  have hx := B.1
  have hb := B.2.1
  have hml := B.2.2.1
  have ho := B.2.2.2.1
  have hw := B.2.2.2.2.1
  have hE := B.2.2.2.2.2.1.2.2
  have hg := B.2.2.2.2.2.2.1
  refine lv_iload_n hx hb dX3_sitOn_0 rfl (lv_at hl 1 rfl) ?_
  refine lv_iconst (v := -1) hx hb dX3_sitOn_1 (by decide) ?_
  refine lv_icmp_ne (tgt := 7) hx hb dX3_sitOn_2 (by decide) (fun c1 => ?_) (fun c1 => ?_)
  · have hf := z_if c1 hf
    refine lv_aload_n hx hb dX3_sitOn_7 rfl (lv_at hl 0 rfl) ?_
    refine z_get_3_1 B hW h0 q186 dX3_sitOn_8 ?_
    refine lv_iload_n hx hb dX3_sitOn_11 rfl (lv_at hl 1 rfl) ?_
    obtain ⟨g2, hf⟩ := z_gd hf
    refine z_aa16 B hW (z_g3_1 hg h0) g2 dX3_sitOn_12 ?_
    refine lv_astore_n (lv' := [(2, .ref (z_r Γ (z_r Γ l0 1) l1.toNatClampNeg)), (0, .ref l0), (1, .int l1)]) hx hb dX3_sitOn_13 rfl hl (by decide) rfl (fun ls hl => ?_)
    refine lv_aload_n hx hb dX3_sitOn_14 rfl (lv_at hl 0 rfl) ?_
    refine lv_dup hx hb dX3_sitOn_15 rfl ?_
    refine z_getN_8_4 B hW (z_g16 hg (z_g3_1 hg h0) g2) q168 dX3_sitOn_16 ?_
    refine lv_iconst (v := 1) hx hb dX3_sitOn_19 (by decide) ?_
    refine lv_iadd hx hb dX3_sitOn_20 ?_
    refine z_putN_8_4 B hW (z_g16 hg (z_g3_1 hg h0) g2) q168 dX3_sitOn_21 (fun H locs hW => ?_)
    obtain ⟨M3, e4, hf⟩ := z_le hf
    have hW := z_wde e4 hW
    refine lv_aload_n hx hb dX3_sitOn_24 rfl (lv_at hl 0 rfl) ?_
    refine z_getN_8_4 B hW (z_g16 hg (z_g3_1 hg h0) g2) q168 dX3_sitOn_25 ?_
    refine lv_aload_n hx hb dX3_sitOn_28 rfl (lv_at hl 1 rfl) ?_
    refine lv_iload_n hx hb dX3_sitOn_29 rfl (lv_at hl 2 rfl) ?_
    obtain ⟨r5, e6, hf⟩ := z_bd hf
    refine z_cV (As := [.int l1]) (rest := [.int (M3.1 (z_r Γ (z_r Γ l0 1) l1.toNatClampNeg) 4)]) B hW (f_X3_stayOf l e6 h0) sc_X3_stayOf sv_X3_114 h0 ⟨Nat.le_of_ble_eq_true rfl, Nat.le_of_ble_eq_true rfl⟩ ⟨Nat.zero_le _, Nat.zero_le _⟩ rfl hl.1 rfl (Nat.le_of_ble_eq_true rfl) dX3_sitOn_30 (fun H locs hW => ?_)
    refine lv_icmp_ge (tgt := 38) hx hb dX3_sitOn_33 (by decide) (fun c7 => ?_) (fun c7 => ?_)
    · have hf := z_it c7 hf
      refine lv_aload_n hx hb dX3_sitOn_38 rfl (lv_at hl 0 rfl) ?_
      refine lv_iconst (v := -1) hx hb dX3_sitOn_39 (by decide) ?_
      obtain ⟨M9, e10, hf⟩ := z_le hf
      refine z_cV (As := [.int (-1 : Int32)]) (rest := []) B hW (f_X8_settle l e10 (z_g16 hg (z_g3_1 hg h0) g2)) sc_X8_settle sv_X3_117 (z_g16 hg (z_g3_1 hg h0) g2) ⟨Nat.le_of_ble_eq_true rfl, Nat.le_of_ble_eq_true rfl⟩ ⟨Nat.zero_le _, Nat.zero_le _⟩ rfl hl.1 rfl (Nat.le_of_ble_eq_true rfl) dX3_sitOn_40 (fun H locs hW => ?_)
      refine lv_iconst (v := 1) hx hb dX3_sitOn_43 (by decide) ?_
      refine lv_iload_n hx hb dX3_sitOn_44 rfl (lv_at hl 2 rfl) ?_
      refine lv_ishl hx hb dX3_sitOn_45 ?_
      obtain ⟨e1, e2⟩ := z_s2 hf
      subst e1
      subst e2
      exact z_ri B hW dX3_sitOn_46
    · have hf := z_if c7 hf
      refine lv_iconst (v := 0) hx hb dX3_sitOn_36 (by decide) ?_
      obtain ⟨e1, e2⟩ := z_s2 hf
      subst e1
      subst e2
      exact z_ri B hW dX3_sitOn_37
  · have hf := z_it c1 hf
    refine lv_iconst (v := 0) hx hb dX3_sitOn_5 (by decide) ?_
    obtain ⟨e1, e2⟩ := z_s2 hf
    subst e1
    subst e2
    exact z_ri B hW dX3_sitOn_6
set_option maxHeartbeats 4000000 in
set_option maxRecDepth 100000 in
theorem w_X3_fill_P12 (B : z_Bd Γ p s m args meth c cX3_fill 5 none RX3) : ∀ (n : Nat) (M : Zm) (l0 : Nat) (l1 : Int32) (l2 : Int32) (l3 : Int32) (M' : Zm), X3_fill_P12 Γ n M l0 l1 l2 l3 = some M' → z_Is Γ 3 l0 → ∀ (H : Heap) (locs : List Loc) (ls : Array Slot), z_Wd Γ M s.heap H locs → lv_has ls 5 [(0, .ref l0), (1, .int l1), (2, .int l2), (3, .int l3)] → W p l e (z_rm 1 22) s m args below meth c H locs 0 0 (z_Q Γ below args s none M') (F0 m 12 ls []) := by
  have hx := B.1
  have hb := B.2.1
  have hml := B.2.2.1
  have ho := B.2.2.2.1
  have hw := B.2.2.2.2.1
  have hE := B.2.2.2.2.2.1.2.2
  have hg := B.2.2.2.2.2.2.1
  intro n
  induction n with
  | zero =>
    intro M l0 l1 l2 l3 M' hf h0 H locs ls hW hl
    cases hf
  | succ n ih =>
    intro M l0 l1 l2 l3 M' hf h0 H locs ls hW hl
    rw [X3_fill_P12] at hf
    refine lv_iload_n hx hb dX3_fill_12 rfl (lv_at hl 3 rfl) ?_
    refine lv_aload_n hx hb dX3_fill_13 rfl (lv_at hl 0 rfl) ?_
    refine z_get_3_2 B hW h0 q187 dX3_fill_14 ?_
    refine lv_icmp_gt (tgt := 80) hx hb dX3_fill_17 (by decide) (fun c4 => ?_) (fun c4 => ?_)
    · have hf := z_it c4 hf
      have hf := Option.some.inj hf
      subst hf
      exact z_rv B hW dX3_fill_80
    · have hf := z_if c4 hf
      refine lv_aload_n hx hb dX3_fill_20 rfl (lv_at hl 0 rfl) ?_
      refine z_get_3_5 B hW h0 q194 dX3_fill_21 ?_
      refine lv_iload_n hx hb dX3_fill_24 rfl (lv_at hl 3 rfl) ?_
      refine lv_iadd hx hb dX3_fill_25 ?_
      refine lv_aload_n hx hb dX3_fill_26 rfl (lv_at hl 0 rfl) ?_
      refine z_get_3_2 B hW h0 q187 dX3_fill_27 ?_
      obtain ⟨g5, hf⟩ := z_gp hf
      refine lv_irem hx hb dX3_fill_30 g5 ?_
      refine lv_istore (lv' := [(4, .int (((M.1 l0 5) + l3) - ((M.1 l0 5) + l3) / (M.1 l0 2) * (M.1 l0 2))), (0, .ref l0), (1, .int l1), (2, .int l2), (3, .int l3)]) hx hb dX3_fill_31 hl (by decide) rfl (fun ls hl => ?_)
      refine lv_aload_n hx hb dX3_fill_33 rfl (lv_at hl 1 rfl) ?_
      refine z_get_3_1 B hW h0 q186 dX3_fill_34 ?_
      refine lv_iload hx hb dX3_fill_37 (lv_at hl 0 rfl) ?_
      obtain ⟨g6, hf⟩ := z_gd hf
      refine z_aa16 B hW (z_g3_1 hg h0) g6 dX3_fill_39 ?_
      refine z_getN_8_3 B hW (z_g16 hg (z_g3_1 hg h0) g6) q165 dX3_fill_40 ?_
      refine lv_iconst (v := -1) hx hb dX3_fill_43 (by decide) ?_
      refine lv_icmp_ne (tgt := 74) hx hb dX3_fill_44 (by decide) (fun c7 => ?_) (fun c7 => ?_)
      · have hf := z_if c7 hf
        refine lv_iinc (v := l3 + (1 : Int32)) (lv' := [(3, .int (l3 + (1 : Int32))), (4, .int (((M.1 l0 5) + l3) - ((M.1 l0 5) + l3) / (M.1 l0 2) * (M.1 l0 2))), (0, .ref l0), (1, .int l1), (2, .int l2)]) hx hb dX3_fill_74 hl (k := 4) rfl rfl (by decide) rfl (fun ls hl => ?_)
        refine lv_goto (tgt := 12) hx hb dX3_fill_77 (by decide) ?_
        exact ih M l0 l1 l2 (l3 + (1 : Int32)) _ hf h0 _ _ _ hW (lv_sub hl [2, 3, 4, 0] rfl)
      · have hf := z_it c7 hf
        refine lv_iload_n hx hb dX3_fill_47 rfl (lv_at hl 3 rfl) ?_
        refine lv_iload hx hb dX3_fill_48 (lv_at hl 0 rfl) ?_
        refine z_cSN (As := [.int l2, .int (((M.1 l0 5) + l3) - ((M.1 l0 5) + l3) / (M.1 l0 2) * (M.1 l0 2))]) (rest := []) B hW (f_X10_holds l) sc_X10_holds ⟨q466, q356⟩ ⟨Nat.le_of_ble_eq_true rfl, Nat.le_of_ble_eq_true rfl⟩ ⟨Nat.zero_le _, Nat.zero_le _⟩ rfl hl.1 rfl (Nat.le_of_ble_eq_true rfl) dX3_fill_50 (fun H locs hW => ?_)
        refine lv_if_ne (tgt := 74) hx hb dX3_fill_53 (by decide) (fun c10 => ?_) (fun c10 => ?_)
        · have hf := z_if c10 hf
          refine lv_iinc (v := l3 + (1 : Int32)) (lv' := [(3, .int (l3 + (1 : Int32))), (4, .int (((M.1 l0 5) + l3) - ((M.1 l0 5) + l3) / (M.1 l0 2) * (M.1 l0 2))), (0, .ref l0), (1, .int l1), (2, .int l2)]) hx hb dX3_fill_74 hl (k := 4) rfl rfl (by decide) rfl (fun ls hl => ?_)
          refine lv_goto (tgt := 12) hx hb dX3_fill_77 (by decide) ?_
          exact ih M l0 l1 l2 (l3 + (1 : Int32)) _ hf h0 _ _ _ hW (lv_sub hl [2, 3, 4, 0] rfl)
        · have hf := z_it c10 hf
          refine lv_aload_n hx hb dX3_fill_56 rfl (lv_at hl 1 rfl) ?_
          refine z_get_3_1 B hW h0 q186 dX3_fill_57 ?_
          refine lv_iload hx hb dX3_fill_60 (lv_at hl 0 rfl) ?_
          obtain ⟨g11, hf⟩ := z_gd hf
          refine z_aa16 B hW (z_g3_1 hg h0) g11 dX3_fill_62 ?_
          refine lv_iload_n hx hb dX3_fill_63 rfl (lv_at hl 2 rfl) ?_
          obtain ⟨M13, e14, hf⟩ := z_le hf
          refine z_cV (As := [.int l1]) (rest := []) B hW (f_X8_settle l e14 (z_g16 hg (z_g3_1 hg h0) g11)) sc_X8_settle sv_X3_117 (z_g16 hg (z_g3_1 hg h0) g11) ⟨Nat.le_of_ble_eq_true rfl, Nat.le_of_ble_eq_true rfl⟩ ⟨Nat.zero_le _, Nat.zero_le _⟩ rfl hl.1 rfl (Nat.le_of_ble_eq_true rfl) dX3_fill_64 (fun H locs hW => ?_)
          refine lv_aload_n hx hb dX3_fill_67 rfl (lv_at hl 1 rfl) ?_
          refine lv_iload hx hb dX3_fill_68 (lv_at hl 0 rfl) ?_
          refine z_put_3_5 B hW h0 q194 dX3_fill_70 (fun H locs hW => ?_)
          obtain ⟨M15, e16, hf⟩ := z_le hf
          have hW := z_wde e16 hW
          have hf := Option.some.inj hf
          subst hf
          exact z_rv B hW dX3_fill_73
set_option maxHeartbeats 4000000 in
set_option maxRecDepth 100000 in
theorem f_X3_fill (l : Launch) {Γ : Zg} {M : Zm} {l0 : Nat} {l1 : Int32} {l2 : Int32} {M' : Zm} (hf : X3_fill Γ M l0 l1 l2 = some M') (h0 : z_Is Γ 3 l0) : z_Fn l Γ yX3_fill cX3_fill 5 none 1 22 [.ref l0, .int l1, .int l2] M none M' := by
  refine z_Fn.of (by decide) (Nat.le_of_ble_eq_true rfl) ?_
  intro p e s m below meth c ls B hW hl
  have B : z_Bd Γ p s m _ meth c cX3_fill 5 none RX3 := B
  have hl : lv_has ls 5 [(0, .ref l0), (1, .int l1), (2, .int l2)] := hl
  rw [X3_fill] at hf
  have hx := B.1
  have hb := B.2.1
  have hml := B.2.2.1
  have ho := B.2.2.2.1
  have hw := B.2.2.2.2.1
  have hE := B.2.2.2.2.2.1.2.2
  have hg := B.2.2.2.2.2.2.1
  refine lv_aload_n hx hb dX3_fill_0 rfl (lv_at hl 0 rfl) ?_
  refine lv_iload_n hx hb dX3_fill_1 rfl (lv_at hl 1 rfl) ?_
  obtain ⟨r1, e2, hf⟩ := z_bd hf
  refine z_cV (As := [.int l1]) (rest := []) B hW (f_X3_holder l e2 h0) sc_X3_holder sv_X3_80 h0 ⟨Nat.le_of_ble_eq_true rfl, Nat.le_of_ble_eq_true rfl⟩ ⟨Nat.zero_le _, Nat.zero_le _⟩ rfl hl.1 rfl (Nat.le_of_ble_eq_true rfl) dX3_fill_2 (fun H locs hW => ?_)
  refine lv_iconst (v := -1) hx hb dX3_fill_5 (by decide) ?_
  refine lv_icmp_eq (tgt := 10) hx hb dX3_fill_6 (by decide) (fun c3 => ?_) (fun c3 => ?_)
  · have hf := z_it c3 hf
    refine lv_iconst (v := 1) hx hb dX3_fill_10 (by decide) ?_
    refine lv_istore_n (lv' := [(3, .int (1 : Int32)), (0, .ref l0), (1, .int l1), (2, .int l2)]) hx hb dX3_fill_11 rfl hl (by decide) rfl (fun ls hl => ?_)
    exact w_X3_fill_P12 B 1000 M l0 l1 l2 (1 : Int32) _ hf h0 _ _ _ hW (lv_sub hl [1, 2, 3, 0] rfl)
  · have hf := z_if c3 hf
    have hf := Option.some.inj hf
    subst hf
    exact z_rv B hW dX3_fill_9
set_option maxHeartbeats 4000000 in
set_option maxRecDepth 100000 in
theorem w_X3_letHoursGo_P2 (B : z_Bd Γ p s m args meth c cX3_letHoursGo 7 none RX3) : ∀ (n : Nat) (M : Zm) (l0 : Nat) (l1 : Int32) (l2 : Int32) (M' : Zm), X3_letHoursGo_P2 Γ n M l0 l1 l2 = some M' → z_Is Γ 3 l0 → ∀ (H : Heap) (locs : List Loc) (ls : Array Slot), z_Wd Γ M s.heap H locs → lv_has ls 7 [(0, .ref l0), (1, .int l1), (2, .int l2)] → W p l e (z_rm 5 113) s m args below meth c H locs 0 0 (z_Q Γ below args s none M') (F0 m 2 ls []) := by
  have hx := B.1
  have hb := B.2.1
  have hml := B.2.2.1
  have ho := B.2.2.2.1
  have hw := B.2.2.2.2.1
  have hE := B.2.2.2.2.2.1.2.2
  have hg := B.2.2.2.2.2.2.1
  intro n
  induction n with
  | zero =>
    intro M l0 l1 l2 M' hf h0 H locs ls hW hl
    cases hf
  | succ n ih =>
    intro M l0 l1 l2 M' hf h0 H locs ls hW hl
    rw [X3_letHoursGo_P2] at hf
    refine lv_iload_n hx hb dX3_letHoursGo_2 rfl (lv_at hl 2 rfl) ?_
    refine lv_iload_n hx hb dX3_letHoursGo_3 rfl (lv_at hl 1 rfl) ?_
    refine lv_icmp_ge (tgt := 109) hx hb dX3_letHoursGo_4 (by decide) (fun c1 => ?_) (fun c1 => ?_)
    · have hf := z_it c1 hf
      have hf := Option.some.inj hf
      subst hf
      exact z_rv B hW dX3_letHoursGo_109
    · have hf := z_if c1 hf
      refine lv_aload_n hx hb dX3_letHoursGo_7 rfl (lv_at hl 0 rfl) ?_
      refine lv_iconst (v := 0) hx hb dX3_letHoursGo_8 (by decide) ?_
      obtain ⟨r2, e3, hf⟩ := z_bd hf
      refine z_cV (As := [.int (0 : Int32)]) (rest := []) B hW (f_X3_holder l e3 h0) sc_X3_holder sv_X3_80 h0 ⟨Nat.le_of_ble_eq_true rfl, Nat.le_of_ble_eq_true rfl⟩ ⟨Nat.zero_le _, Nat.zero_le _⟩ rfl hl.1 rfl (Nat.le_of_ble_eq_true rfl) dX3_letHoursGo_9 (fun H locs hW => ?_)
      refine lv_istore_n (lv' := [(3, .int r2), (0, .ref l0), (1, .int l1), (2, .int l2)]) hx hb dX3_letHoursGo_12 rfl hl (by decide) rfl (fun ls hl => ?_)
      refine lv_aload_n hx hb dX3_letHoursGo_13 rfl (lv_at hl 1 rfl) ?_
      refine lv_iconst (v := 1) hx hb dX3_letHoursGo_14 (by decide) ?_
      obtain ⟨r4, e5, hf⟩ := z_bd hf
      refine z_cV (As := [.int (1 : Int32)]) (rest := []) B hW (f_X3_holder l e5 h0) sc_X3_holder sv_X3_80 h0 ⟨Nat.le_of_ble_eq_true rfl, Nat.le_of_ble_eq_true rfl⟩ ⟨Nat.zero_le _, Nat.zero_le _⟩ rfl hl.1 rfl (Nat.le_of_ble_eq_true rfl) dX3_letHoursGo_15 (fun H locs hW => ?_)
      refine lv_istore (lv' := [(4, .int r4), (3, .int r2), (0, .ref l0), (1, .int l1), (2, .int l2)]) hx hb dX3_letHoursGo_18 hl (by decide) rfl (fun ls hl => ?_)
      refine lv_iload_n hx hb dX3_letHoursGo_20 rfl (lv_at hl 1 rfl) ?_
      refine lv_iconst (v := -1) hx hb dX3_letHoursGo_21 (by decide) ?_
      refine lv_icmp_eq (tgt := 65) hx hb dX3_letHoursGo_22 (by decide) (fun c6 => ?_) (fun c6 => ?_)
      · have hf := z_it c6 hf
        refine lv_aload_n hx hb dX3_letHoursGo_65 rfl (lv_at hl 2 rfl) ?_
        refine lv_iload_n hx hb dX3_letHoursGo_66 rfl (lv_at hl 1 rfl) ?_
        obtain ⟨r7, M8, e9, hf⟩ := z_bpe hf
        refine z_cV (As := [.int r2]) (rest := []) B hW (f_X3_sitOn l e9 h0) sc_X3_sitOn sv_X3_90 h0 ⟨Nat.le_of_ble_eq_true rfl, Nat.le_of_ble_eq_true rfl⟩ ⟨Nat.zero_le _, Nat.zero_le _⟩ rfl hl.1 rfl (Nat.le_of_ble_eq_true rfl) dX3_letHoursGo_67 (fun H locs hW => ?_)
        refine lv_aload_n hx hb dX3_letHoursGo_70 rfl (lv_at hl 2 rfl) ?_
        refine lv_iload hx hb dX3_letHoursGo_71 (lv_at hl 0 rfl) ?_
        obtain ⟨r10, M11, e12, hf⟩ := z_bpe hf
        refine z_cV (As := [.int r4]) (rest := [.int r7]) B hW (f_X3_sitOn l e12 h0) sc_X3_sitOn sv_X3_90 h0 ⟨Nat.le_of_ble_eq_true rfl, Nat.le_of_ble_eq_true rfl⟩ ⟨Nat.zero_le _, Nat.zero_le _⟩ rfl hl.1 rfl (Nat.le_of_ble_eq_true rfl) dX3_letHoursGo_73 (fun H locs hW => ?_)
        refine lv_ior hx hb dX3_letHoursGo_76 ?_
        refine lv_istore (lv' := [(5, .int (r7 ||| r10)), (4, .int r4), (3, .int r2), (0, .ref l0), (1, .int l1), (2, .int l2)]) hx hb dX3_letHoursGo_77 hl (by decide) rfl (fun ls hl => ?_)
        refine lv_aload_n hx hb dX3_letHoursGo_79 rfl (lv_at hl 3 rfl) ?_
        refine lv_iconst (v := 0) hx hb dX3_letHoursGo_80 (by decide) ?_
        refine lv_iload hx hb dX3_letHoursGo_81 (lv_at hl 0 rfl) ?_
        obtain ⟨M14, e15, hf⟩ := z_bd hf
        refine z_cV (As := [.int (0 : Int32), .int (r7 ||| r10)]) (rest := []) B hW (f_X3_fill l e15 h0) sc_X3_fill sv_X3_93 h0 ⟨Nat.le_of_ble_eq_true rfl, Nat.le_of_ble_eq_true rfl⟩ ⟨Nat.zero_le _, Nat.zero_le _⟩ rfl hl.1 rfl (Nat.le_of_ble_eq_true rfl) dX3_letHoursGo_83 (fun H locs hW => ?_)
        refine lv_aload_n hx hb dX3_letHoursGo_86 rfl (lv_at hl 3 rfl) ?_
        refine lv_iconst (v := 1) hx hb dX3_letHoursGo_87 (by decide) ?_
        refine lv_iload hx hb dX3_letHoursGo_88 (lv_at hl 0 rfl) ?_
        obtain ⟨M17, e18, hf⟩ := z_bd hf
        refine z_cV (As := [.int (1 : Int32), .int (r7 ||| r10)]) (rest := []) B hW (f_X3_fill l e18 h0) sc_X3_fill sv_X3_93 h0 ⟨Nat.le_of_ble_eq_true rfl, Nat.le_of_ble_eq_true rfl⟩ ⟨Nat.zero_le _, Nat.zero_le _⟩ rfl hl.1 rfl (Nat.le_of_ble_eq_true rfl) dX3_letHoursGo_90 (fun H locs hW => ?_)
        refine lv_aload_n hx hb dX3_letHoursGo_93 rfl (lv_at hl 3 rfl) ?_
        refine lv_dup hx hb dX3_letHoursGo_94 rfl ?_
        refine z_get_3_4 B hW h0 q192 dX3_letHoursGo_95 ?_
        refine lv_iconst (v := 1) hx hb dX3_letHoursGo_98 (by decide) ?_
        refine lv_iadd hx hb dX3_letHoursGo_99 ?_
        refine z_put_3_4 B hW h0 q192 dX3_letHoursGo_100 (fun H locs hW => ?_)
        obtain ⟨M19, e20, hf⟩ := z_le hf
        have hW := z_wde e20 hW
        refine lv_iinc (v := l2 + (1 : Int32)) (lv' := [(2, .int (l2 + (1 : Int32))), (5, .int (r7 ||| r10)), (4, .int r4), (3, .int r2), (0, .ref l0), (1, .int l1)]) hx hb dX3_letHoursGo_103 hl (k := 5) rfl rfl (by decide) rfl (fun ls hl => ?_)
        refine lv_goto (tgt := 2) hx hb dX3_letHoursGo_106 (by decide) ?_
        exact ih M19 l0 l1 (l2 + (1 : Int32)) _ hf h0 _ _ _ hW (lv_sub hl [4, 5, 0] rfl)
      · have hf := z_if c6 hf
        refine lv_iload hx hb dX3_letHoursGo_25 (lv_at hl 0 rfl) ?_
        refine lv_iconst (v := -1) hx hb dX3_letHoursGo_27 (by decide) ?_
        refine lv_icmp_eq (tgt := 65) hx hb dX3_letHoursGo_28 (by decide) (fun c21 => ?_) (fun c21 => ?_)
        · have hf := z_it c21 hf
          refine lv_aload_n hx hb dX3_letHoursGo_65 rfl (lv_at hl 2 rfl) ?_
          refine lv_iload_n hx hb dX3_letHoursGo_66 rfl (lv_at hl 1 rfl) ?_
          obtain ⟨r22, M23, e24, hf⟩ := z_bpe hf
          refine z_cV (As := [.int r2]) (rest := []) B hW (f_X3_sitOn l e24 h0) sc_X3_sitOn sv_X3_90 h0 ⟨Nat.le_of_ble_eq_true rfl, Nat.le_of_ble_eq_true rfl⟩ ⟨Nat.zero_le _, Nat.zero_le _⟩ rfl hl.1 rfl (Nat.le_of_ble_eq_true rfl) dX3_letHoursGo_67 (fun H locs hW => ?_)
          refine lv_aload_n hx hb dX3_letHoursGo_70 rfl (lv_at hl 2 rfl) ?_
          refine lv_iload hx hb dX3_letHoursGo_71 (lv_at hl 0 rfl) ?_
          obtain ⟨r25, M26, e27, hf⟩ := z_bpe hf
          refine z_cV (As := [.int r4]) (rest := [.int r22]) B hW (f_X3_sitOn l e27 h0) sc_X3_sitOn sv_X3_90 h0 ⟨Nat.le_of_ble_eq_true rfl, Nat.le_of_ble_eq_true rfl⟩ ⟨Nat.zero_le _, Nat.zero_le _⟩ rfl hl.1 rfl (Nat.le_of_ble_eq_true rfl) dX3_letHoursGo_73 (fun H locs hW => ?_)
          refine lv_ior hx hb dX3_letHoursGo_76 ?_
          refine lv_istore (lv' := [(5, .int (r22 ||| r25)), (4, .int r4), (3, .int r2), (0, .ref l0), (1, .int l1), (2, .int l2)]) hx hb dX3_letHoursGo_77 hl (by decide) rfl (fun ls hl => ?_)
          refine lv_aload_n hx hb dX3_letHoursGo_79 rfl (lv_at hl 3 rfl) ?_
          refine lv_iconst (v := 0) hx hb dX3_letHoursGo_80 (by decide) ?_
          refine lv_iload hx hb dX3_letHoursGo_81 (lv_at hl 0 rfl) ?_
          obtain ⟨M29, e30, hf⟩ := z_bd hf
          refine z_cV (As := [.int (0 : Int32), .int (r22 ||| r25)]) (rest := []) B hW (f_X3_fill l e30 h0) sc_X3_fill sv_X3_93 h0 ⟨Nat.le_of_ble_eq_true rfl, Nat.le_of_ble_eq_true rfl⟩ ⟨Nat.zero_le _, Nat.zero_le _⟩ rfl hl.1 rfl (Nat.le_of_ble_eq_true rfl) dX3_letHoursGo_83 (fun H locs hW => ?_)
          refine lv_aload_n hx hb dX3_letHoursGo_86 rfl (lv_at hl 3 rfl) ?_
          refine lv_iconst (v := 1) hx hb dX3_letHoursGo_87 (by decide) ?_
          refine lv_iload hx hb dX3_letHoursGo_88 (lv_at hl 0 rfl) ?_
          obtain ⟨M32, e33, hf⟩ := z_bd hf
          refine z_cV (As := [.int (1 : Int32), .int (r22 ||| r25)]) (rest := []) B hW (f_X3_fill l e33 h0) sc_X3_fill sv_X3_93 h0 ⟨Nat.le_of_ble_eq_true rfl, Nat.le_of_ble_eq_true rfl⟩ ⟨Nat.zero_le _, Nat.zero_le _⟩ rfl hl.1 rfl (Nat.le_of_ble_eq_true rfl) dX3_letHoursGo_90 (fun H locs hW => ?_)
          refine lv_aload_n hx hb dX3_letHoursGo_93 rfl (lv_at hl 3 rfl) ?_
          refine lv_dup hx hb dX3_letHoursGo_94 rfl ?_
          refine z_get_3_4 B hW h0 q192 dX3_letHoursGo_95 ?_
          refine lv_iconst (v := 1) hx hb dX3_letHoursGo_98 (by decide) ?_
          refine lv_iadd hx hb dX3_letHoursGo_99 ?_
          refine z_put_3_4 B hW h0 q192 dX3_letHoursGo_100 (fun H locs hW => ?_)
          obtain ⟨M34, e35, hf⟩ := z_le hf
          have hW := z_wde e35 hW
          refine lv_iinc (v := l2 + (1 : Int32)) (lv' := [(2, .int (l2 + (1 : Int32))), (5, .int (r22 ||| r25)), (4, .int r4), (3, .int r2), (0, .ref l0), (1, .int l1)]) hx hb dX3_letHoursGo_103 hl (k := 5) rfl rfl (by decide) rfl (fun ls hl => ?_)
          refine lv_goto (tgt := 2) hx hb dX3_letHoursGo_106 (by decide) ?_
          exact ih M34 l0 l1 (l2 + (1 : Int32)) _ hf h0 _ _ _ hW (lv_sub hl [4, 5, 0] rfl)
        · have hf := z_if c21 hf
          refine lv_aload_n hx hb dX3_letHoursGo_31 rfl (lv_at hl 2 rfl) ?_
          refine lv_iload_n hx hb dX3_letHoursGo_32 rfl (lv_at hl 1 rfl) ?_
          obtain ⟨r36, e37, hf⟩ := z_bd hf
          refine z_cV (As := [.int r2]) (rest := []) B hW (f_X3_saidBy l e37 h0) sc_X3_saidBy sv_X3_83 h0 ⟨Nat.le_of_ble_eq_true rfl, Nat.le_of_ble_eq_true rfl⟩ ⟨Nat.zero_le _, Nat.zero_le _⟩ rfl hl.1 rfl (Nat.le_of_ble_eq_true rfl) dX3_letHoursGo_33 (fun H locs hW => ?_)
          refine lv_istore (lv' := [(5, .int r36), (4, .int r4), (3, .int r2), (0, .ref l0), (1, .int l1), (2, .int l2)]) hx hb dX3_letHoursGo_36 hl (by decide) rfl (fun ls hl => ?_)
          refine lv_aload_n hx hb dX3_letHoursGo_38 rfl (lv_at hl 3 rfl) ?_
          refine lv_iload hx hb dX3_letHoursGo_39 (lv_at hl 1 rfl) ?_
          obtain ⟨r38, e39, hf⟩ := z_bd hf
          refine z_cV (As := [.int r4]) (rest := []) B hW (f_X3_saidBy l e39 h0) sc_X3_saidBy sv_X3_83 h0 ⟨Nat.le_of_ble_eq_true rfl, Nat.le_of_ble_eq_true rfl⟩ ⟨Nat.zero_le _, Nat.zero_le _⟩ rfl hl.1 rfl (Nat.le_of_ble_eq_true rfl) dX3_letHoursGo_41 (fun H locs hW => ?_)
          refine lv_istore (lv' := [(6, .int r38), (5, .int r36), (4, .int r4), (3, .int r2), (0, .ref l0), (1, .int l1), (2, .int l2)]) hx hb dX3_letHoursGo_44 hl (by decide) rfl (fun ls hl => ?_)
          refine lv_aload_n hx hb dX3_letHoursGo_46 rfl (lv_at hl 4 rfl) ?_
          refine lv_iload_n hx hb dX3_letHoursGo_47 rfl (lv_at hl 3 rfl) ?_
          refine lv_iload hx hb dX3_letHoursGo_48 (lv_at hl 1 rfl) ?_
          refine lv_iload hx hb dX3_letHoursGo_50 (lv_at hl 0 rfl) ?_
          obtain ⟨M41, e42, hf⟩ := z_bd hf
          refine z_cV (As := [.int r2, .int r36, .int r38]) (rest := []) B hW (f_X3_bring l e42 h0) sc_X3_bring sv_X3_86 h0 ⟨Nat.le_of_ble_eq_true rfl, Nat.le_of_ble_eq_true rfl⟩ ⟨Nat.zero_le _, Nat.zero_le _⟩ rfl hl.1 rfl (Nat.le_of_ble_eq_true rfl) dX3_letHoursGo_52 (fun H locs hW => ?_)
          refine lv_aload_n hx hb dX3_letHoursGo_55 rfl (lv_at hl 4 rfl) ?_
          refine lv_iload hx hb dX3_letHoursGo_56 (lv_at hl 2 rfl) ?_
          refine lv_iload hx hb dX3_letHoursGo_58 (lv_at hl 0 rfl) ?_
          refine lv_iload hx hb dX3_letHoursGo_60 (lv_at hl 1 rfl) ?_
          obtain ⟨M44, e45, hf⟩ := z_bd hf
          refine z_cV (As := [.int r4, .int r38, .int r36]) (rest := []) B hW (f_X3_bring l e45 h0) sc_X3_bring sv_X3_86 h0 ⟨Nat.le_of_ble_eq_true rfl, Nat.le_of_ble_eq_true rfl⟩ ⟨Nat.zero_le _, Nat.zero_le _⟩ rfl hl.1 rfl (Nat.le_of_ble_eq_true rfl) dX3_letHoursGo_62 (fun H locs hW => ?_)
          refine lv_aload_n hx hb dX3_letHoursGo_65 rfl (lv_at hl 4 rfl) ?_
          refine lv_iload_n hx hb dX3_letHoursGo_66 rfl (lv_at hl 3 rfl) ?_
          obtain ⟨r46, M47, e48, hf⟩ := z_bpe hf
          refine z_cV (As := [.int r2]) (rest := []) B hW (f_X3_sitOn l e48 h0) sc_X3_sitOn sv_X3_90 h0 ⟨Nat.le_of_ble_eq_true rfl, Nat.le_of_ble_eq_true rfl⟩ ⟨Nat.zero_le _, Nat.zero_le _⟩ rfl hl.1 rfl (Nat.le_of_ble_eq_true rfl) dX3_letHoursGo_67 (fun H locs hW => ?_)
          refine lv_aload_n hx hb dX3_letHoursGo_70 rfl (lv_at hl 4 rfl) ?_
          refine lv_iload hx hb dX3_letHoursGo_71 (lv_at hl 2 rfl) ?_
          obtain ⟨r49, M50, e51, hf⟩ := z_bpe hf
          refine z_cV (As := [.int r4]) (rest := [.int r46]) B hW (f_X3_sitOn l e51 h0) sc_X3_sitOn sv_X3_90 h0 ⟨Nat.le_of_ble_eq_true rfl, Nat.le_of_ble_eq_true rfl⟩ ⟨Nat.zero_le _, Nat.zero_le _⟩ rfl hl.1 rfl (Nat.le_of_ble_eq_true rfl) dX3_letHoursGo_73 (fun H locs hW => ?_)
          refine lv_ior hx hb dX3_letHoursGo_76 ?_
          refine lv_istore (lv' := [(5, .int (r46 ||| r49)), (6, .int r38), (4, .int r4), (3, .int r2), (0, .ref l0), (1, .int l1), (2, .int l2)]) hx hb dX3_letHoursGo_77 hl (by decide) rfl (fun ls hl => ?_)
          refine lv_aload_n hx hb dX3_letHoursGo_79 rfl (lv_at hl 4 rfl) ?_
          refine lv_iconst (v := 0) hx hb dX3_letHoursGo_80 (by decide) ?_
          refine lv_iload hx hb dX3_letHoursGo_81 (lv_at hl 0 rfl) ?_
          obtain ⟨M53, e54, hf⟩ := z_bd hf
          refine z_cV (As := [.int (0 : Int32), .int (r46 ||| r49)]) (rest := []) B hW (f_X3_fill l e54 h0) sc_X3_fill sv_X3_93 h0 ⟨Nat.le_of_ble_eq_true rfl, Nat.le_of_ble_eq_true rfl⟩ ⟨Nat.zero_le _, Nat.zero_le _⟩ rfl hl.1 rfl (Nat.le_of_ble_eq_true rfl) dX3_letHoursGo_83 (fun H locs hW => ?_)
          refine lv_aload_n hx hb dX3_letHoursGo_86 rfl (lv_at hl 4 rfl) ?_
          refine lv_iconst (v := 1) hx hb dX3_letHoursGo_87 (by decide) ?_
          refine lv_iload hx hb dX3_letHoursGo_88 (lv_at hl 0 rfl) ?_
          obtain ⟨M56, e57, hf⟩ := z_bd hf
          refine z_cV (As := [.int (1 : Int32), .int (r46 ||| r49)]) (rest := []) B hW (f_X3_fill l e57 h0) sc_X3_fill sv_X3_93 h0 ⟨Nat.le_of_ble_eq_true rfl, Nat.le_of_ble_eq_true rfl⟩ ⟨Nat.zero_le _, Nat.zero_le _⟩ rfl hl.1 rfl (Nat.le_of_ble_eq_true rfl) dX3_letHoursGo_90 (fun H locs hW => ?_)
          refine lv_aload_n hx hb dX3_letHoursGo_93 rfl (lv_at hl 4 rfl) ?_
          refine lv_dup hx hb dX3_letHoursGo_94 rfl ?_
          refine z_get_3_4 B hW h0 q192 dX3_letHoursGo_95 ?_
          refine lv_iconst (v := 1) hx hb dX3_letHoursGo_98 (by decide) ?_
          refine lv_iadd hx hb dX3_letHoursGo_99 ?_
          refine z_put_3_4 B hW h0 q192 dX3_letHoursGo_100 (fun H locs hW => ?_)
          obtain ⟨M58, e59, hf⟩ := z_le hf
          have hW := z_wde e59 hW
          refine lv_iinc (v := l2 + (1 : Int32)) (lv' := [(2, .int (l2 + (1 : Int32))), (5, .int (r46 ||| r49)), (6, .int r38), (4, .int r4), (3, .int r2), (0, .ref l0), (1, .int l1)]) hx hb dX3_letHoursGo_103 hl (k := 6) rfl rfl (by decide) rfl (fun ls hl => ?_)
          refine lv_goto (tgt := 2) hx hb dX3_letHoursGo_106 (by decide) ?_
          exact ih M58 l0 l1 (l2 + (1 : Int32)) _ hf h0 _ _ _ hW (lv_sub hl [5, 6, 0] rfl)
set_option maxHeartbeats 4000000 in
set_option maxRecDepth 100000 in
theorem f_X3_letHoursGo (l : Launch) {Γ : Zg} {M : Zm} {l0 : Nat} {l1 : Int32} {M' : Zm} (hf : X3_letHoursGo Γ M l0 l1 = some M') (h0 : z_Is Γ 3 l0) : z_Fn l Γ yX3_letHoursGo cX3_letHoursGo 7 none 5 113 [.ref l0, .int l1] M none M' := by
  refine z_Fn.of (by decide) (Nat.le_of_ble_eq_true rfl) ?_
  intro p e s m below meth c ls B hW hl
  have B : z_Bd Γ p s m _ meth c cX3_letHoursGo 7 none RX3 := B
  have hl : lv_has ls 7 [(0, .ref l0), (1, .int l1)] := hl
  rw [X3_letHoursGo] at hf
  have hx := B.1
  have hb := B.2.1
  have hml := B.2.2.1
  have ho := B.2.2.2.1
  have hw := B.2.2.2.2.1
  have hE := B.2.2.2.2.2.1.2.2
  have hg := B.2.2.2.2.2.2.1
  refine lv_iconst (v := 0) hx hb dX3_letHoursGo_0 (by decide) ?_
  refine lv_istore_n (lv' := [(2, .int (0 : Int32)), (0, .ref l0), (1, .int l1)]) hx hb dX3_letHoursGo_1 rfl hl (by decide) rfl (fun ls hl => ?_)
  exact w_X3_letHoursGo_P2 B 1000 M l0 l1 (0 : Int32) _ hf h0 _ _ _ hW (lv_sub hl [1, 2, 0] rfl)
set_option maxHeartbeats 4000000 in
set_option maxRecDepth 100000 in
theorem w_X3_knownToAll_P17 (B : z_Bd Γ p s m args meth c cX3_knownToAll 3 (some .int) RX3) : ∀ (n : Nat) (M : Zm) (l0 : Nat) (l1 : Int32) (l2 : Int32) (r : Int32), X3_knownToAll_P17 Γ n M l0 l1 l2 = some r → z_Is Γ 3 l0 → ∀ (H : Heap) (locs : List Loc) (ls : Array Slot), z_Wd Γ M s.heap H locs → lv_has ls 3 [(0, .ref l0), (1, .int l1), (2, .int l2)] → W p l e (z_rm 0 0) s m args below meth c H locs 0 0 (z_Q Γ below args s (some (.int r)) M) (F0 m 17 ls []) := by
  have hx := B.1
  have hb := B.2.1
  have hml := B.2.2.1
  have ho := B.2.2.2.1
  have hw := B.2.2.2.2.1
  have hE := B.2.2.2.2.2.1.2.2
  have hg := B.2.2.2.2.2.2.1
  intro n
  induction n with
  | zero =>
    intro M l0 l1 l2 r hf h0 H locs ls hW hl
    cases hf
  | succ n ih =>
    intro M l0 l1 l2 r hf h0 H locs ls hW hl
    rw [X3_knownToAll_P17] at hf
    refine lv_iload_n hx hb dX3_knownToAll_17 rfl (lv_at hl 2 rfl) ?_
    refine lv_aload_n hx hb dX3_knownToAll_18 rfl (lv_at hl 0 rfl) ?_
    refine z_get_3_2 B hW h0 q187 dX3_knownToAll_19 ?_
    refine lv_icmp_ge (tgt := 43) hx hb dX3_knownToAll_22 (by decide) (fun c2 => ?_) (fun c2 => ?_)
    · have hf := z_it c2 hf
      refine lv_iload_n hx hb dX3_knownToAll_43 rfl (lv_at hl 1 rfl) ?_
      have hf := Option.some.inj hf
      subst hf
      exact z_ri B hW dX3_knownToAll_44
    · have hf := z_if c2 hf
      refine lv_iload_n hx hb dX3_knownToAll_25 rfl (lv_at hl 1 rfl) ?_
      refine lv_aload_n hx hb dX3_knownToAll_26 rfl (lv_at hl 0 rfl) ?_
      refine z_get_3_1 B hW h0 q186 dX3_knownToAll_27 ?_
      refine lv_iload_n hx hb dX3_knownToAll_30 rfl (lv_at hl 2 rfl) ?_
      obtain ⟨g3, hf⟩ := z_gd hf
      refine z_aa16 B hW (z_g3_1 hg h0) g3 dX3_knownToAll_31 ?_
      refine z_getN_8_1 B hW (z_g16 hg (z_g3_1 hg h0) g3) q158 dX3_knownToAll_32 ?_
      refine lv_iand hx hb dX3_knownToAll_35 ?_
      refine lv_istore_n (lv' := [(1, .int (l1 &&& (M.1 (z_r Γ (z_r Γ l0 1) l2.toNatClampNeg) 1))), (0, .ref l0), (2, .int l2)]) hx hb dX3_knownToAll_36 rfl hl (by decide) rfl (fun ls hl => ?_)
      refine lv_iinc (v := l2 + (1 : Int32)) (lv' := [(2, .int (l2 + (1 : Int32))), (1, .int (l1 &&& (M.1 (z_r Γ (z_r Γ l0 1) l2.toNatClampNeg) 1))), (0, .ref l0)]) hx hb dX3_knownToAll_37 hl (k := 2) rfl rfl (by decide) rfl (fun ls hl => ?_)
      refine lv_goto (tgt := 17) hx hb dX3_knownToAll_40 (by decide) ?_
      exact ih M l0 (l1 &&& (M.1 (z_r Γ (z_r Γ l0 1) l2.toNatClampNeg) 1)) (l2 + (1 : Int32)) _ hf h0 _ _ _ hW (lv_sub hl [2, 1, 0] rfl)
set_option maxHeartbeats 4000000 in
set_option maxRecDepth 100000 in
theorem f_X3_knownToAll (l : Launch) {Γ : Zg} {M : Zm} {l0 : Nat} {r : Int32} (hf : X3_knownToAll Γ M l0 = some r) (h0 : z_Is Γ 3 l0) : z_Fn l Γ yX3_knownToAll cX3_knownToAll 3 (some .int) 0 0 [.ref l0] M (some (.int r)) M := by
  refine z_Fn.of (by decide) (Nat.le_of_ble_eq_true rfl) ?_
  intro p e s m below meth c ls B hW hl
  have B : z_Bd Γ p s m _ meth c cX3_knownToAll 3 (some .int) RX3 := B
  have hl : lv_has ls 3 [(0, .ref l0)] := hl
  rw [X3_knownToAll] at hf
  have hx := B.1
  have hb := B.2.1
  have hml := B.2.2.1
  have ho := B.2.2.2.1
  have hw := B.2.2.2.2.1
  have hE := B.2.2.2.2.2.1.2.2
  have hg := B.2.2.2.2.2.2.1
  refine lv_aload_n hx hb dX3_knownToAll_0 rfl (lv_at hl 0 rfl) ?_
  refine z_get_3_2 B hW h0 q187 dX3_knownToAll_1 ?_
  refine lv_if_ne (tgt := 11) hx hb dX3_knownToAll_4 (by decide) (fun c1 => ?_) (fun c1 => ?_)
  · have hf := z_if c1 hf
    refine lv_sipush (v := 1023) hx hb dX3_knownToAll_11 (by decide) ?_
    refine lv_istore_n (lv' := [(1, .int (1023 : Int32)), (0, .ref l0)]) hx hb dX3_knownToAll_14 rfl hl (by decide) rfl (fun ls hl => ?_)
    refine lv_iconst (v := 0) hx hb dX3_knownToAll_15 (by decide) ?_
    refine lv_istore_n (lv' := [(2, .int (0 : Int32)), (1, .int (1023 : Int32)), (0, .ref l0)]) hx hb dX3_knownToAll_16 rfl hl (by decide) rfl (fun ls hl => ?_)
    exact w_X3_knownToAll_P17 B 1000 M l0 (1023 : Int32) (0 : Int32) _ hf h0 _ _ _ hW (lv_sub hl [2, 1, 0] rfl)
  · have hf := z_it c1 hf
    refine lv_iconst (v := 0) hx hb dX3_knownToAll_7 (by decide) ?_
    refine lv_goto (tgt := 14) hx hb dX3_knownToAll_8 (by decide) ?_
    refine lv_istore_n (lv' := [(1, .int (0 : Int32)), (0, .ref l0)]) hx hb dX3_knownToAll_14 rfl hl (by decide) rfl (fun ls hl => ?_)
    refine lv_iconst (v := 0) hx hb dX3_knownToAll_15 (by decide) ?_
    refine lv_istore_n (lv' := [(2, .int (0 : Int32)), (1, .int (0 : Int32)), (0, .ref l0)]) hx hb dX3_knownToAll_16 rfl hl (by decide) rfl (fun ls hl => ?_)
    exact w_X3_knownToAll_P17 B 1000 M l0 (0 : Int32) (0 : Int32) _ hf h0 _ _ _ hW (lv_sub hl [2, 1, 0] rfl)
set_option maxHeartbeats 4000000 in
set_option maxRecDepth 100000 in
theorem w_X3_knownTo_P4 (B : z_Bd Γ p s m args meth c cX3_knownTo 4 (some .int) RX3) : ∀ (n : Nat) (M : Zm) (l0 : Nat) (l1 : Int32) (l2 : Int32) (l3 : Int32) (r : Int32), X3_knownTo_P4 Γ n M l0 l1 l2 l3 = some r → z_Is Γ 3 l0 → ∀ (H : Heap) (locs : List Loc) (ls : Array Slot), z_Wd Γ M s.heap H locs → lv_has ls 4 [(0, .ref l0), (1, .int l1), (2, .int l2), (3, .int l3)] → W p l e (z_rm 0 0) s m args below meth c H locs 0 0 (z_Q Γ below args s (some (.int r)) M) (F0 m 4 ls []) := by
  have hx := B.1
  have hb := B.2.1
  have hml := B.2.2.1
  have ho := B.2.2.2.1
  have hw := B.2.2.2.2.1
  have hE := B.2.2.2.2.2.1.2.2
  have hg := B.2.2.2.2.2.2.1
  intro n
  induction n with
  | zero =>
    intro M l0 l1 l2 l3 r hf h0 H locs ls hW hl
    cases hf
  | succ n ih =>
    intro M l0 l1 l2 l3 r hf h0 H locs ls hW hl
    rw [X3_knownTo_P4] at hf
    refine lv_iload_n hx hb dX3_knownTo_4 rfl (lv_at hl 3 rfl) ?_
    refine lv_aload_n hx hb dX3_knownTo_5 rfl (lv_at hl 0 rfl) ?_
    refine z_get_3_2 B hW h0 q187 dX3_knownTo_6 ?_
    refine lv_icmp_ge (tgt := 34) hx hb dX3_knownTo_9 (by decide) (fun c1 => ?_) (fun c1 => ?_)
    · have hf := z_it c1 hf
      refine lv_iload_n hx hb dX3_knownTo_34 rfl (lv_at hl 2 rfl) ?_
      have hf := Option.some.inj hf
      subst hf
      exact z_ri B hW dX3_knownTo_35
    · have hf := z_if c1 hf
      refine lv_iload_n hx hb dX3_knownTo_12 rfl (lv_at hl 2 rfl) ?_
      refine lv_aload_n hx hb dX3_knownTo_13 rfl (lv_at hl 0 rfl) ?_
      refine z_get_3_1 B hW h0 q186 dX3_knownTo_14 ?_
      refine lv_iload_n hx hb dX3_knownTo_17 rfl (lv_at hl 3 rfl) ?_
      obtain ⟨g2, hf⟩ := z_gd hf
      refine z_aa16 B hW (z_g3_1 hg h0) g2 dX3_knownTo_18 ?_
      refine z_getN_8_1 B hW (z_g16 hg (z_g3_1 hg h0) g2) q158 dX3_knownTo_19 ?_
      refine lv_iload_n hx hb dX3_knownTo_22 rfl (lv_at hl 1 rfl) ?_
      refine lv_ishr hx hb dX3_knownTo_23 ?_
      refine lv_iconst (v := 1) hx hb dX3_knownTo_24 (by decide) ?_
      refine lv_iand hx hb dX3_knownTo_25 ?_
      refine lv_iadd hx hb dX3_knownTo_26 ?_
      refine lv_istore_n (lv' := [(2, .int (l2 + (((M.1 (z_r Γ (z_r Γ l0 1) l3.toNatClampNeg) 1) >>> (l1 &&& 31)) &&& (1 : Int32)))), (0, .ref l0), (1, .int l1), (3, .int l3)]) hx hb dX3_knownTo_27 rfl hl (by decide) rfl (fun ls hl => ?_)
      refine lv_iinc (v := l3 + (1 : Int32)) (lv' := [(3, .int (l3 + (1 : Int32))), (2, .int (l2 + (((M.1 (z_r Γ (z_r Γ l0 1) l3.toNatClampNeg) 1) >>> (l1 &&& 31)) &&& (1 : Int32)))), (0, .ref l0), (1, .int l1)]) hx hb dX3_knownTo_28 hl (k := 3) rfl rfl (by decide) rfl (fun ls hl => ?_)
      refine lv_goto (tgt := 4) hx hb dX3_knownTo_31 (by decide) ?_
      exact ih M l0 l1 (l2 + (((M.1 (z_r Γ (z_r Γ l0 1) l3.toNatClampNeg) 1) >>> (l1 &&& 31)) &&& (1 : Int32))) (l3 + (1 : Int32)) _ hf h0 _ _ _ hW (lv_sub hl [2, 3, 1, 0] rfl)
set_option maxHeartbeats 4000000 in
set_option maxRecDepth 100000 in
theorem f_X3_knownTo (l : Launch) {Γ : Zg} {M : Zm} {l0 : Nat} {l1 : Int32} {r : Int32} (hf : X3_knownTo Γ M l0 l1 = some r) (h0 : z_Is Γ 3 l0) : z_Fn l Γ yX3_knownTo cX3_knownTo 4 (some .int) 0 0 [.ref l0, .int l1] M (some (.int r)) M := by
  refine z_Fn.of (by decide) (Nat.le_of_ble_eq_true rfl) ?_
  intro p e s m below meth c ls B hW hl
  have B : z_Bd Γ p s m _ meth c cX3_knownTo 4 (some .int) RX3 := B
  have hl : lv_has ls 4 [(0, .ref l0), (1, .int l1)] := hl
  rw [X3_knownTo] at hf
  have hx := B.1
  have hb := B.2.1
  have hml := B.2.2.1
  have ho := B.2.2.2.1
  have hw := B.2.2.2.2.1
  have hE := B.2.2.2.2.2.1.2.2
  have hg := B.2.2.2.2.2.2.1
  refine lv_iconst (v := 0) hx hb dX3_knownTo_0 (by decide) ?_
  refine lv_istore_n (lv' := [(2, .int (0 : Int32)), (0, .ref l0), (1, .int l1)]) hx hb dX3_knownTo_1 rfl hl (by decide) rfl (fun ls hl => ?_)
  refine lv_iconst (v := 0) hx hb dX3_knownTo_2 (by decide) ?_
  refine lv_istore_n (lv' := [(3, .int (0 : Int32)), (2, .int (0 : Int32)), (0, .ref l0), (1, .int l1)]) hx hb dX3_knownTo_3 rfl hl (by decide) rfl (fun ls hl => ?_)
  exact w_X3_knownTo_P4 B 1000 M l0 l1 (0 : Int32) (0 : Int32) _ hf h0 _ _ _ hW (lv_sub hl [2, 3, 1, 0] rfl)
set_option maxHeartbeats 4000000 in
set_option maxRecDepth 100000 in
theorem w_X3_heardByAll_P4 (B : z_Bd Γ p s m args meth c cX3_heardByAll 3 (some .int) RX3) : ∀ (n : Nat) (M : Zm) (l0 : Nat) (l1 : Int32) (l2 : Int32) (r : Int32), X3_heardByAll_P4 Γ n M l0 l1 l2 = some r → z_Is Γ 3 l0 → ∀ (H : Heap) (locs : List Loc) (ls : Array Slot), z_Wd Γ M s.heap H locs → lv_has ls 3 [(0, .ref l0), (1, .int l1), (2, .int l2)] → W p l e (z_rm 0 0) s m args below meth c H locs 0 0 (z_Q Γ below args s (some (.int r)) M) (F0 m 4 ls []) := by
  have hx := B.1
  have hb := B.2.1
  have hml := B.2.2.1
  have ho := B.2.2.2.1
  have hw := B.2.2.2.2.1
  have hE := B.2.2.2.2.2.1.2.2
  have hg := B.2.2.2.2.2.2.1
  intro n
  induction n with
  | zero =>
    intro M l0 l1 l2 r hf h0 H locs ls hW hl
    cases hf
  | succ n ih =>
    intro M l0 l1 l2 r hf h0 H locs ls hW hl
    rw [X3_heardByAll_P4] at hf
    refine lv_iload_n hx hb dX3_heardByAll_4 rfl (lv_at hl 2 rfl) ?_
    refine lv_aload_n hx hb dX3_heardByAll_5 rfl (lv_at hl 0 rfl) ?_
    refine z_get_3_2 B hW h0 q187 dX3_heardByAll_6 ?_
    refine lv_icmp_ge (tgt := 30) hx hb dX3_heardByAll_9 (by decide) (fun c1 => ?_) (fun c1 => ?_)
    · have hf := z_it c1 hf
      refine lv_iload_n hx hb dX3_heardByAll_30 rfl (lv_at hl 1 rfl) ?_
      have hf := Option.some.inj hf
      subst hf
      exact z_ri B hW dX3_heardByAll_31
    · have hf := z_if c1 hf
      refine lv_iload_n hx hb dX3_heardByAll_12 rfl (lv_at hl 1 rfl) ?_
      refine lv_aload_n hx hb dX3_heardByAll_13 rfl (lv_at hl 0 rfl) ?_
      refine z_get_3_1 B hW h0 q186 dX3_heardByAll_14 ?_
      refine lv_iload_n hx hb dX3_heardByAll_17 rfl (lv_at hl 2 rfl) ?_
      obtain ⟨g2, hf⟩ := z_gd hf
      refine z_aa16 B hW (z_g3_1 hg h0) g2 dX3_heardByAll_18 ?_
      refine z_getN_8_5 B hW (z_g16 hg (z_g3_1 hg h0) g2) q171 dX3_heardByAll_19 ?_
      refine lv_iadd hx hb dX3_heardByAll_22 ?_
      refine lv_istore_n (lv' := [(1, .int (l1 + (M.1 (z_r Γ (z_r Γ l0 1) l2.toNatClampNeg) 5))), (0, .ref l0), (2, .int l2)]) hx hb dX3_heardByAll_23 rfl hl (by decide) rfl (fun ls hl => ?_)
      refine lv_iinc (v := l2 + (1 : Int32)) (lv' := [(2, .int (l2 + (1 : Int32))), (1, .int (l1 + (M.1 (z_r Γ (z_r Γ l0 1) l2.toNatClampNeg) 5))), (0, .ref l0)]) hx hb dX3_heardByAll_24 hl (k := 2) rfl rfl (by decide) rfl (fun ls hl => ?_)
      refine lv_goto (tgt := 4) hx hb dX3_heardByAll_27 (by decide) ?_
      exact ih M l0 (l1 + (M.1 (z_r Γ (z_r Γ l0 1) l2.toNatClampNeg) 5)) (l2 + (1 : Int32)) _ hf h0 _ _ _ hW (lv_sub hl [2, 1, 0] rfl)
set_option maxHeartbeats 4000000 in
set_option maxRecDepth 100000 in
theorem f_X3_heardByAll (l : Launch) {Γ : Zg} {M : Zm} {l0 : Nat} {r : Int32} (hf : X3_heardByAll Γ M l0 = some r) (h0 : z_Is Γ 3 l0) : z_Fn l Γ yX3_heardByAll cX3_heardByAll 3 (some .int) 0 0 [.ref l0] M (some (.int r)) M := by
  refine z_Fn.of (by decide) (Nat.le_of_ble_eq_true rfl) ?_
  intro p e s m below meth c ls B hW hl
  have B : z_Bd Γ p s m _ meth c cX3_heardByAll 3 (some .int) RX3 := B
  have hl : lv_has ls 3 [(0, .ref l0)] := hl
  rw [X3_heardByAll] at hf
  have hx := B.1
  have hb := B.2.1
  have hml := B.2.2.1
  have ho := B.2.2.2.1
  have hw := B.2.2.2.2.1
  have hE := B.2.2.2.2.2.1.2.2
  have hg := B.2.2.2.2.2.2.1
  refine lv_iconst (v := 0) hx hb dX3_heardByAll_0 (by decide) ?_
  refine lv_istore_n (lv' := [(1, .int (0 : Int32)), (0, .ref l0)]) hx hb dX3_heardByAll_1 rfl hl (by decide) rfl (fun ls hl => ?_)
  refine lv_iconst (v := 0) hx hb dX3_heardByAll_2 (by decide) ?_
  refine lv_istore_n (lv' := [(2, .int (0 : Int32)), (1, .int (0 : Int32)), (0, .ref l0)]) hx hb dX3_heardByAll_3 rfl hl (by decide) rfl (fun ls hl => ?_)
  exact w_X3_heardByAll_P4 B 1000 M l0 (0 : Int32) (0 : Int32) _ hf h0 _ _ _ hW (lv_sub hl [2, 1, 0] rfl)
set_option maxHeartbeats 4000000 in
set_option maxRecDepth 100000 in
theorem w_X3_believedByAll_P4 (B : z_Bd Γ p s m args meth c cX3_believedByAll 3 (some .int) RX3) : ∀ (n : Nat) (M : Zm) (l0 : Nat) (l1 : Int32) (l2 : Int32) (r : Int32), X3_believedByAll_P4 Γ n M l0 l1 l2 = some r → z_Is Γ 3 l0 → ∀ (H : Heap) (locs : List Loc) (ls : Array Slot), z_Wd Γ M s.heap H locs → lv_has ls 3 [(0, .ref l0), (1, .int l1), (2, .int l2)] → W p l e (z_rm 1 20) s m args below meth c H locs 0 0 (z_Q Γ below args s (some (.int r)) M) (F0 m 4 ls []) := by
  have hx := B.1
  have hb := B.2.1
  have hml := B.2.2.1
  have ho := B.2.2.2.1
  have hw := B.2.2.2.2.1
  have hE := B.2.2.2.2.2.1.2.2
  have hg := B.2.2.2.2.2.2.1
  intro n
  induction n with
  | zero =>
    intro M l0 l1 l2 r hf h0 H locs ls hW hl
    cases hf
  | succ n ih =>
    intro M l0 l1 l2 r hf h0 H locs ls hW hl
    rw [X3_believedByAll_P4] at hf
    refine lv_iload_n hx hb dX3_believedByAll_4 rfl (lv_at hl 2 rfl) ?_
    refine lv_aload_n hx hb dX3_believedByAll_5 rfl (lv_at hl 0 rfl) ?_
    refine z_get_3_2 B hW h0 q187 dX3_believedByAll_6 ?_
    refine lv_icmp_ge (tgt := 33) hx hb dX3_believedByAll_9 (by decide) (fun c1 => ?_) (fun c1 => ?_)
    · have hf := z_it c1 hf
      refine lv_iload_n hx hb dX3_believedByAll_33 rfl (lv_at hl 1 rfl) ?_
      have hf := Option.some.inj hf
      subst hf
      exact z_ri B hW dX3_believedByAll_34
    · have hf := z_if c1 hf
      refine lv_iload_n hx hb dX3_believedByAll_12 rfl (lv_at hl 1 rfl) ?_
      refine lv_aload_n hx hb dX3_believedByAll_13 rfl (lv_at hl 0 rfl) ?_
      refine z_get_3_1 B hW h0 q186 dX3_believedByAll_14 ?_
      refine lv_iload_n hx hb dX3_believedByAll_17 rfl (lv_at hl 2 rfl) ?_
      obtain ⟨g2, hf⟩ := z_gd hf
      refine z_aa16 B hW (z_g3_1 hg h0) g2 dX3_believedByAll_18 ?_
      refine z_getN_8_2 B hW (z_g16 hg (z_g3_1 hg h0) g2) q162 dX3_believedByAll_19 ?_
      refine z_cS (As := [.int (M.1 (z_r Γ (z_r Γ l0 1) l2.toNatClampNeg) 2)]) (rest := [.int l1]) B hW (f_J6_bitCount_0f7a4 l) sc_J6_bitCount_0f7a4 ⟨q467, q407⟩ ⟨Nat.le_of_ble_eq_true rfl, Nat.le_of_ble_eq_true rfl⟩ ⟨Nat.zero_le _, Nat.zero_le _⟩ rfl hl.1 rfl (Nat.le_of_ble_eq_true rfl) dX3_believedByAll_22 (fun H locs hW => ?_)
      refine lv_iadd hx hb dX3_believedByAll_25 ?_
      refine lv_istore_n (lv' := [(1, .int (l1 + (J6_bitCount_0f7a4 (M.1 (z_r Γ (z_r Γ l0 1) l2.toNatClampNeg) 2)))), (0, .ref l0), (2, .int l2)]) hx hb dX3_believedByAll_26 rfl hl (by decide) rfl (fun ls hl => ?_)
      refine lv_iinc (v := l2 + (1 : Int32)) (lv' := [(2, .int (l2 + (1 : Int32))), (1, .int (l1 + (J6_bitCount_0f7a4 (M.1 (z_r Γ (z_r Γ l0 1) l2.toNatClampNeg) 2)))), (0, .ref l0)]) hx hb dX3_believedByAll_27 hl (k := 2) rfl rfl (by decide) rfl (fun ls hl => ?_)
      refine lv_goto (tgt := 4) hx hb dX3_believedByAll_30 (by decide) ?_
      exact ih M l0 (l1 + (J6_bitCount_0f7a4 (M.1 (z_r Γ (z_r Γ l0 1) l2.toNatClampNeg) 2))) (l2 + (1 : Int32)) _ hf h0 _ _ _ hW (lv_sub hl [2, 1, 0] rfl)
set_option maxHeartbeats 4000000 in
set_option maxRecDepth 100000 in
theorem f_X3_believedByAll (l : Launch) {Γ : Zg} {M : Zm} {l0 : Nat} {r : Int32} (hf : X3_believedByAll Γ M l0 = some r) (h0 : z_Is Γ 3 l0) : z_Fn l Γ yX3_believedByAll cX3_believedByAll 3 (some .int) 1 20 [.ref l0] M (some (.int r)) M := by
  refine z_Fn.of (by decide) (Nat.le_of_ble_eq_true rfl) ?_
  intro p e s m below meth c ls B hW hl
  have B : z_Bd Γ p s m _ meth c cX3_believedByAll 3 (some .int) RX3 := B
  have hl : lv_has ls 3 [(0, .ref l0)] := hl
  rw [X3_believedByAll] at hf
  have hx := B.1
  have hb := B.2.1
  have hml := B.2.2.1
  have ho := B.2.2.2.1
  have hw := B.2.2.2.2.1
  have hE := B.2.2.2.2.2.1.2.2
  have hg := B.2.2.2.2.2.2.1
  refine lv_iconst (v := 0) hx hb dX3_believedByAll_0 (by decide) ?_
  refine lv_istore_n (lv' := [(1, .int (0 : Int32)), (0, .ref l0)]) hx hb dX3_believedByAll_1 rfl hl (by decide) rfl (fun ls hl => ?_)
  refine lv_iconst (v := 0) hx hb dX3_believedByAll_2 (by decide) ?_
  refine lv_istore_n (lv' := [(2, .int (0 : Int32)), (1, .int (0 : Int32)), (0, .ref l0)]) hx hb dX3_believedByAll_3 rfl hl (by decide) rfl (fun ls hl => ?_)
  exact w_X3_believedByAll_P4 B 1000 M l0 (0 : Int32) (0 : Int32) _ hf h0 _ _ _ hW (lv_sub hl [2, 1, 0] rfl)
set_option maxHeartbeats 4000000 in
set_option maxRecDepth 100000 in
theorem f_X5_isMissing (l : Launch) {Γ : Zg} {M : Zm} {l0 : Nat} (h0 : z_Is Γ 5 l0) : z_Fn l Γ yX5_isMissing cX5_isMissing 1 (some .boolean) 0 0 [.ref l0] M (some (.int (X5_isMissing M l0))) M := by
  generalize hf : X5_isMissing M l0 = r
  refine z_Fn.of (by decide) (Nat.le_of_ble_eq_true rfl) ?_
  intro p e s m below meth c ls B hW hl
  have B : z_Bd Γ p s m _ meth c cX5_isMissing 1 (some .boolean) RX5 := B
  have hl : lv_has ls 1 [(0, .ref l0)] := hl
  rw [X5_isMissing] at hf
  have hx := B.1
  have hb := B.2.1
  have hml := B.2.2.1
  have ho := B.2.2.2.1
  have hw := B.2.2.2.2.1
  have hE := B.2.2.2.2.2.1.2.2
  have hg := B.2.2.2.2.2.2.1
  refine lv_aload_n hx hb dX5_isMissing_0 rfl (lv_at hl 0 rfl) ?_
  refine z_get_5_1 B hW h0 q245 dX5_isMissing_1 ?_
  refine lv_if_ne (tgt := 11) hx hb dX5_isMissing_4 (by decide) (fun c1 => ?_) (fun c1 => ?_)
  · have hf := z_if c1 hf
    refine lv_iconst (v := 0) hx hb dX5_isMissing_11 (by decide) ?_
    subst hf
    exact z_rz B hW (Or.inl rfl) dX5_isMissing_12
  · have hf := z_it c1 hf
    refine lv_iconst (v := 1) hx hb dX5_isMissing_7 (by decide) ?_
    refine lv_goto (tgt := 12) hx hb dX5_isMissing_8 (by decide) ?_
    subst hf
    exact z_rz B hW (Or.inr rfl) dX5_isMissing_12
set_option maxHeartbeats 4000000 in
set_option maxRecDepth 100000 in
theorem w_X5_renew_P12 (B : z_Bd Γ p s m args meth c cX5_renew 4 none RX5) : ∀ (n : Nat) (M : Zm) (l0 : Nat) (l3 : Int32) (M' : Zm), X5_renew_P12 Γ n M l0 l3 = some M' → z_Is Γ 5 l0 → ∀ (H : Heap) (locs : List Loc) (ls : Array Slot), z_Wd Γ M s.heap H locs → lv_has ls 4 [(0, .ref l0), (3, .int l3)] → W p l e (z_rm 0 0) s m args below meth c H locs 0 0 (z_Q Γ below args s none M') (F0 m 12 ls []) := by
  have hx := B.1
  have hb := B.2.1
  have hml := B.2.2.1
  have ho := B.2.2.2.1
  have hw := B.2.2.2.2.1
  have hE := B.2.2.2.2.2.1.2.2
  have hg := B.2.2.2.2.2.2.1
  intro n
  induction n with
  | zero =>
    intro M l0 l3 M' hf h0 H locs ls hW hl
    cases hf
  | succ n ih =>
    intro M l0 l3 M' hf h0 H locs ls hW hl
    rw [X5_renew_P12] at hf
    refine lv_iload_n hx hb dX5_renew_12 rfl (lv_at hl 1 rfl) ?_
    refine lv_bipush (v := 40) hx hb dX5_renew_13 (by decide) ?_
    refine lv_icmp_ge (tgt := 31) hx hb dX5_renew_15 (by decide) (fun c5 => ?_) (fun c5 => ?_)
    · have hf := z_it c5 hf
      have hf := Option.some.inj hf
      subst hf
      exact z_rv B hW dX5_renew_31
    · have hf := z_if c5 hf
      refine lv_aload_n hx hb dX5_renew_18 rfl (lv_at hl 0 rfl) ?_
      refine z_get_5_0 B hW h0 q243 dX5_renew_19 ?_
      refine lv_iload_n hx hb dX5_renew_22 rfl (lv_at hl 1 rfl) ?_
      refine lv_lconst (v := 0) hx hb dX5_renew_23 (by decide) ?_
      obtain ⟨g6, hf⟩ := z_gd hf
      refine z_ls B hW (z_g5_0 hg h0) g6 dX5_renew_24 (fun H locs hW => ?_)
      obtain ⟨M7, e8, hf⟩ := z_le hf
      have hW := z_wde e8 hW
      refine lv_iinc (v := l3 + (1 : Int32)) (lv' := [(3, .int (l3 + (1 : Int32))), (0, .ref l0)]) hx hb dX5_renew_25 hl (k := 1) rfl rfl (by decide) rfl (fun ls hl => ?_)
      refine lv_goto (tgt := 12) hx hb dX5_renew_28 (by decide) ?_
      exact ih M7 l0 (l3 + (1 : Int32)) _ hf h0 _ _ _ hW (lv_sub hl [1, 0] rfl)
set_option maxHeartbeats 4000000 in
set_option maxRecDepth 100000 in
theorem f_X5_renew (l : Launch) {Γ : Zg} {M : Zm} {l0 : Nat} {l1 : Int32} {l2 : Int32} {M' : Zm} (hf : X5_renew Γ M l0 l1 l2 = some M') (h0 : z_Is Γ 5 l0) : z_Fn l Γ yX5_renew cX5_renew 4 none 0 0 [.ref l0, .int l1, .int l2] M none M' := by
  refine z_Fn.of (by decide) (Nat.le_of_ble_eq_true rfl) ?_
  intro p e s m below meth c ls B hW hl
  have B : z_Bd Γ p s m _ meth c cX5_renew 4 none RX5 := B
  have hl : lv_has ls 4 [(0, .ref l0), (1, .int l1), (2, .int l2)] := hl
  rw [X5_renew] at hf
  have hx := B.1
  have hb := B.2.1
  have hml := B.2.2.1
  have ho := B.2.2.2.1
  have hw := B.2.2.2.2.1
  have hE := B.2.2.2.2.2.1.2.2
  have hg := B.2.2.2.2.2.2.1
  refine lv_aload_n hx hb dX5_renew_0 rfl (lv_at hl 0 rfl) ?_
  refine lv_iload_n hx hb dX5_renew_1 rfl (lv_at hl 1 rfl) ?_
  refine z_put_5_1 B hW h0 q245 dX5_renew_2 (fun H locs hW => ?_)
  obtain ⟨M1, e2, hf⟩ := z_le hf
  have hW := z_wde e2 hW
  refine lv_aload_n hx hb dX5_renew_5 rfl (lv_at hl 0 rfl) ?_
  refine lv_iload_n hx hb dX5_renew_6 rfl (lv_at hl 2 rfl) ?_
  refine z_put_5_2 B hW h0 q247 dX5_renew_7 (fun H locs hW => ?_)
  obtain ⟨M3, e4, hf⟩ := z_le hf
  have hW := z_wde e4 hW
  refine lv_iconst (v := 0) hx hb dX5_renew_10 (by decide) ?_
  refine lv_istore_n (lv' := [(3, .int (0 : Int32)), (0, .ref l0), (1, .int l1), (2, .int l2)]) hx hb dX5_renew_11 rfl hl (by decide) rfl (fun ls hl => ?_)
  exact w_X5_renew_P12 B 1000 M3 l0 (0 : Int32) _ hf h0 _ _ _ hW (lv_sub hl [1, 0] rfl)
set_option maxHeartbeats 4000000 in
set_option maxRecDepth 100000 in
theorem f_X5_hasSpan (l : Launch) {Γ : Zg} {M : Zm} {l0 : Nat} {l1 : Int32} {l2 : Int32} (h0 : z_Is Γ 5 l0) : z_Fn l Γ yX5_hasSpan cX5_hasSpan 3 (some .boolean) 0 0 [.ref l0, .int l1, .int l2] M (some (.int (X5_hasSpan M l0 l1 l2))) M := by
  generalize hf : X5_hasSpan M l0 l1 l2 = r
  refine z_Fn.of (by decide) (Nat.le_of_ble_eq_true rfl) ?_
  intro p e s m below meth c ls B hW hl
  have B : z_Bd Γ p s m _ meth c cX5_hasSpan 3 (some .boolean) RX5 := B
  have hl : lv_has ls 3 [(0, .ref l0), (1, .int l1), (2, .int l2)] := hl
  rw [X5_hasSpan] at hf
  have hx := B.1
  have hb := B.2.1
  have hml := B.2.2.1
  have ho := B.2.2.2.1
  have hw := B.2.2.2.2.1
  have hE := B.2.2.2.2.2.1.2.2
  have hg := B.2.2.2.2.2.2.1
  refine lv_iload_n hx hb dX5_hasSpan_0 rfl (lv_at hl 1 rfl) ?_
  refine lv_if_lt (tgt := 30) hx hb dX5_hasSpan_1 (by decide) (fun c1 => ?_) (fun c1 => ?_)
  · have hf := z_it c1 hf
    refine lv_iconst (v := 0) hx hb dX5_hasSpan_30 (by decide) ?_
    subst hf
    exact z_rz B hW (Or.inl rfl) dX5_hasSpan_31
  · have hf := z_if c1 hf
    refine lv_iload_n hx hb dX5_hasSpan_4 rfl (lv_at hl 2 rfl) ?_
    refine lv_if_lt (tgt := 30) hx hb dX5_hasSpan_5 (by decide) (fun c2 => ?_) (fun c2 => ?_)
    · have hf := z_it c2 hf
      refine lv_iconst (v := 0) hx hb dX5_hasSpan_30 (by decide) ?_
      subst hf
      exact z_rz B hW (Or.inl rfl) dX5_hasSpan_31
    · have hf := z_if c2 hf
      refine lv_iload_n hx hb dX5_hasSpan_8 rfl (lv_at hl 1 rfl) ?_
      refine lv_aload_n hx hb dX5_hasSpan_9 rfl (lv_at hl 0 rfl) ?_
      refine z_get_5_2 B hW h0 q247 dX5_hasSpan_10 ?_
      refine lv_icmp_gt (tgt := 30) hx hb dX5_hasSpan_13 (by decide) (fun c3 => ?_) (fun c3 => ?_)
      · have hf := z_it c3 hf
        refine lv_iconst (v := 0) hx hb dX5_hasSpan_30 (by decide) ?_
        subst hf
        exact z_rz B hW (Or.inl rfl) dX5_hasSpan_31
      · have hf := z_if c3 hf
        refine lv_iload_n hx hb dX5_hasSpan_16 rfl (lv_at hl 2 rfl) ?_
        refine lv_aload_n hx hb dX5_hasSpan_17 rfl (lv_at hl 0 rfl) ?_
        refine z_get_5_2 B hW h0 q247 dX5_hasSpan_18 ?_
        refine lv_iload_n hx hb dX5_hasSpan_21 rfl (lv_at hl 1 rfl) ?_
        refine lv_isub hx hb dX5_hasSpan_22 ?_
        refine lv_icmp_gt (tgt := 30) hx hb dX5_hasSpan_23 (by decide) (fun c4 => ?_) (fun c4 => ?_)
        · have hf := z_it c4 hf
          refine lv_iconst (v := 0) hx hb dX5_hasSpan_30 (by decide) ?_
          subst hf
          exact z_rz B hW (Or.inl rfl) dX5_hasSpan_31
        · have hf := z_if c4 hf
          refine lv_iconst (v := 1) hx hb dX5_hasSpan_26 (by decide) ?_
          refine lv_goto (tgt := 31) hx hb dX5_hasSpan_27 (by decide) ?_
          subst hf
          exact z_rz B hW (Or.inr rfl) dX5_hasSpan_31
set_option maxHeartbeats 4000000 in
set_option maxRecDepth 100000 in
theorem f_X5_cut (l : Launch) {Γ : Zg} {M : Zm} {l0 : Nat} {l1 : Int64} (h0 : z_Is Γ 5 l0) : z_Fn l Γ yX5_cut cX5_cut 3 (some .long) 0 0 [.ref l0, .long l1] M (some (.long (X5_cut M l0 l1))) M := by
  generalize hf : X5_cut M l0 l1 = r
  refine z_Fn.of (by decide) (Nat.le_of_ble_eq_true rfl) ?_
  intro p e s m below meth c ls B hW hl
  have B : z_Bd Γ p s m _ meth c cX5_cut 3 (some .long) RX5 := B
  have hl : lv_has ls 3 [(0, .ref l0), (1, .long l1)] := hl
  rw [X5_cut] at hf
  have hx := B.1
  have hb := B.2.1
  have hml := B.2.2.1
  have ho := B.2.2.2.1
  have hw := B.2.2.2.2.1
  have hE := B.2.2.2.2.2.1.2.2
  have hg := B.2.2.2.2.2.2.1
  refine lv_aload_n hx hb dX5_cut_0 rfl (lv_at hl 0 rfl) ?_
  refine z_get_5_1 B hW h0 q245 dX5_cut_1 ?_
  by_cases c1 : (M.1 l0 1) = (8 : Int32)
  · have hf := z_it c1 hf
    refine lv_lookup (off := 28) (tgt := 32) hx hb dX5_cut_4 (by decide) (by rw [c1]; decide) (by decide) ?_
    refine lv_lload_n hx hb dX5_cut_32 rfl (lv_at hl 1 rfl) ?_
    refine lv_l2i hx hb dX5_cut_33 rfl ?_
    refine lv_i2b hx hb dX5_cut_34 rfl ?_
    refine lv_i2l hx hb dX5_cut_35 rfl ?_
    subst hf
    exact z_rl B hW dX5_cut_36
  · have hf := z_if c1 hf
    by_cases c2 : (M.1 l0 1) = (16 : Int32)
    · have hf := z_it c2 hf
      refine lv_lookup (off := 33) (tgt := 37) hx hb dX5_cut_4 (by decide) (by rw [c2]; decide) (by decide) ?_
      refine lv_lload_n hx hb dX5_cut_37 rfl (lv_at hl 1 rfl) ?_
      refine lv_l2i hx hb dX5_cut_38 rfl ?_
      refine lv_i2s hx hb dX5_cut_39 rfl ?_
      refine lv_i2l hx hb dX5_cut_40 rfl ?_
      subst hf
      exact z_rl B hW dX5_cut_41
    · have hf := z_if c2 hf
      refine lv_lookup (off := 38) (tgt := 42) hx hb dX5_cut_4 (by decide) ?_ (by decide) ?_
      · exact z_lk2 (z_nei 8 (by decide) c1) (z_nei 16 (by decide) c2)
      refine lv_lload_n hx hb dX5_cut_42 rfl (lv_at hl 1 rfl) ?_
      subst hf
      exact z_rl B hW dX5_cut_43
set_option maxHeartbeats 4000000 in
set_option maxRecDepth 100000 in
theorem f_X5_put (l : Launch) {Γ : Zg} {M : Zm} {l0 : Nat} {l1 : Int32} {l2 : Int64} {r : Int64} {M' : Zm} (hf : X5_put Γ M l0 l1 l2 = some (r, M')) (h0 : z_Is Γ 5 l0) : z_Fn l Γ yX5_put cX5_put 6 (some .long) 1 22 [.ref l0, .int l1, .long l2] M (some (.long r)) M' := by
  refine z_Fn.of (by decide) (Nat.le_of_ble_eq_true rfl) ?_
  intro p e s m below meth c ls B hW hl
  have B : z_Bd Γ p s m _ meth c cX5_put 6 (some .long) RX5 := B
  have hl : lv_has ls 6 [(0, .ref l0), (1, .int l1), (2, .long l2)] := hl
  rw [X5_put] at hf
  have hx := B.1
  have hb := B.2.1
  have hml := B.2.2.1
  have ho := B.2.2.2.1
  have hw := B.2.2.2.2.1
  have hE := B.2.2.2.2.2.1.2.2
  have hg := B.2.2.2.2.2.2.1
  refine lv_aload_n hx hb dX5_put_0 rfl (lv_at hl 0 rfl) ?_
  refine z_get_5_0 B hW h0 q243 dX5_put_1 ?_
  refine lv_iload_n hx hb dX5_put_4 rfl (lv_at hl 1 rfl) ?_
  obtain ⟨g1, hf⟩ := z_gd hf
  refine z_la B hW (z_g5_0 hg h0) g1 dX5_put_5 ?_
  refine lv_lstore (lv' := [(4, .long (M.2 (z_r Γ l0 0) l1.toNatClampNeg)), (0, .ref l0), (1, .int l1), (2, .long l2)]) hx hb dX5_put_6 hl (by decide) rfl (fun ls hl => ?_)
  refine lv_aload_n hx hb dX5_put_8 rfl (lv_at hl 1 rfl) ?_
  refine z_get_5_0 B hW h0 q243 dX5_put_9 ?_
  refine lv_iload_n hx hb dX5_put_12 rfl (lv_at hl 2 rfl) ?_
  refine lv_aload_n hx hb dX5_put_13 rfl (lv_at hl 1 rfl) ?_
  refine lv_lload_n hx hb dX5_put_14 rfl (lv_at hl 3 rfl) ?_
  refine z_cV (As := [.long l2]) (rest := [.int l1, .ref (z_r Γ l0 0)]) B hW (f_X5_cut l h0) sc_X5_cut sv_X5_22 h0 ⟨Nat.le_of_ble_eq_true rfl, Nat.le_of_ble_eq_true rfl⟩ ⟨Nat.zero_le _, Nat.zero_le _⟩ rfl hl.1 rfl (Nat.le_of_ble_eq_true rfl) dX5_put_15 (fun H locs hW => ?_)
  obtain ⟨g4, hf⟩ := z_gd hf
  refine z_ls B hW (z_g5_0 hg h0) g4 dX5_put_18 (fun H locs hW => ?_)
  obtain ⟨M5, e6, hf⟩ := z_le hf
  have hW := z_wde e6 hW
  refine lv_lload hx hb dX5_put_19 (lv_at hl 0 rfl) ?_
  obtain ⟨e1, e2⟩ := z_s2 hf
  subst e1
  subst e2
  exact z_rl B hW dX5_put_21
set_option maxHeartbeats 4000000 in
set_option maxRecDepth 100000 in
theorem f_X7_append (l : Launch) {Γ : Zg} {M : Zm} {l0 : Nat} {l1 : Int32} {M' : Zm} (hf : X7_append Γ M l0 l1 = some M') (h0 : z_Is Γ 7 l0) : z_Fn l Γ yX7_append cX7_append 2 none 0 0 [.ref l0, .int l1] M none M' := by
  refine z_Fn.of (by decide) (Nat.le_of_ble_eq_true rfl) ?_
  intro p e s m below meth c ls B hW hl
  have B : z_Bd Γ p s m _ meth c cX7_append 2 none RX7 := B
  have hl : lv_has ls 2 [(0, .ref l0), (1, .int l1)] := hl
  rw [X7_append] at hf
  have hx := B.1
  have hb := B.2.1
  have hml := B.2.2.1
  have ho := B.2.2.2.1
  have hw := B.2.2.2.2.1
  have hE := B.2.2.2.2.2.1.2.2
  have hg := B.2.2.2.2.2.2.1
  refine lv_aload_n hx hb dX7_append_0 rfl (lv_at hl 0 rfl) ?_
  refine z_get_7_0 B hW h0 q215 dX7_append_1 ?_
  refine lv_aload_n hx hb dX7_append_4 rfl (lv_at hl 0 rfl) ?_
  refine z_get_7_1 B hW h0 q216 dX7_append_5 ?_
  refine lv_iload_n hx hb dX7_append_8 rfl (lv_at hl 1 rfl) ?_
  obtain ⟨g1, hf⟩ := z_gd hf
  refine z_is B hW (z_g7_0 hg h0) g1 dX7_append_9 (fun H locs hW => ?_)
  obtain ⟨M2, e3, hf⟩ := z_le hf
  have hW := z_wde e3 hW
  refine lv_aload_n hx hb dX7_append_10 rfl (lv_at hl 0 rfl) ?_
  refine lv_dup hx hb dX7_append_11 rfl ?_
  refine z_get_7_1 B hW h0 q216 dX7_append_12 ?_
  refine lv_iconst (v := 1) hx hb dX7_append_15 (by decide) ?_
  refine lv_iadd hx hb dX7_append_16 ?_
  refine z_put_7_1 B hW h0 q216 dX7_append_17 (fun H locs hW => ?_)
  obtain ⟨M4, e5, hf⟩ := z_le hf
  have hW := z_wde e5 hW
  have hf := Option.some.inj hf
  subst hf
  exact z_rv B hW dX7_append_20
set_option maxHeartbeats 4000000 in
set_option maxRecDepth 100000 in
theorem f_X7_isLetter (l : Launch) {Γ : Zg} {M : Zm} {l0 : Int32}  : z_Fn l Γ yX7_isLetter cX7_isLetter 1 (some .boolean) 0 0 [.int l0] M (some (.int (X7_isLetter l0))) M := by
  generalize hf : X7_isLetter l0 = r
  refine z_Fn.of (by decide) (Nat.le_of_ble_eq_true rfl) ?_
  intro p e s m below meth c ls B hW hl
  have B : z_Bd Γ p s m _ meth c cX7_isLetter 1 (some .boolean) RX7 := B
  have hl : lv_has ls 1 [(0, .int l0)] := hl
  rw [X7_isLetter] at hf
  have hx := B.1
  have hb := B.2.1
  have hml := B.2.2.1
  have ho := B.2.2.2.1
  have hw := B.2.2.2.2.1
  have hE := B.2.2.2.2.2.1.2.2
  have hg := B.2.2.2.2.2.2.1
  refine lv_iload_n hx hb dX7_isLetter_0 rfl (lv_at hl 0 rfl) ?_
  refine lv_bipush (v := 97) hx hb dX7_isLetter_1 (by decide) ?_
  refine lv_icmp_lt (tgt := 16) hx hb dX7_isLetter_3 (by decide) (fun c1 => ?_) (fun c1 => ?_)
  · have hf := z_it c1 hf
    refine lv_iconst (v := 0) hx hb dX7_isLetter_16 (by decide) ?_
    subst hf
    exact z_rz B hW (Or.inl rfl) dX7_isLetter_17
  · have hf := z_if c1 hf
    refine lv_iload_n hx hb dX7_isLetter_6 rfl (lv_at hl 0 rfl) ?_
    refine lv_bipush (v := 122) hx hb dX7_isLetter_7 (by decide) ?_
    refine lv_icmp_gt (tgt := 16) hx hb dX7_isLetter_9 (by decide) (fun c2 => ?_) (fun c2 => ?_)
    · have hf := z_it c2 hf
      refine lv_iconst (v := 0) hx hb dX7_isLetter_16 (by decide) ?_
      subst hf
      exact z_rz B hW (Or.inl rfl) dX7_isLetter_17
    · have hf := z_if c2 hf
      refine lv_iconst (v := 1) hx hb dX7_isLetter_12 (by decide) ?_
      refine lv_goto (tgt := 17) hx hb dX7_isLetter_13 (by decide) ?_
      subst hf
      exact z_rz B hW (Or.inr rfl) dX7_isLetter_17
set_option maxHeartbeats 4000000 in
set_option maxRecDepth 100000 in
theorem w_X7_takeWord_P5 (B : z_Bd Γ p s m args meth c cX7_takeWord 1 none RX7) : ∀ (n : Nat) (M : Zm) (l0 : Nat) (M' : Zm), X7_takeWord_P5 Γ n M l0 = some M' → z_Is Γ 7 l0 → ∀ (H : Heap) (locs : List Loc) (ls : Array Slot), z_Wd Γ M s.heap H locs → lv_has ls 1 [(0, .ref l0)] → W p l e (z_rm 1 20) s m args below meth c H locs 0 0 (z_Q Γ below args s none M') (F0 m 5 ls []) := by
  have hx := B.1
  have hb := B.2.1
  have hml := B.2.2.1
  have ho := B.2.2.2.1
  have hw := B.2.2.2.2.1
  have hE := B.2.2.2.2.2.1.2.2
  have hg := B.2.2.2.2.2.2.1
  intro n
  induction n with
  | zero =>
    intro M l0 M' hf h0 H locs ls hW hl
    cases hf
  | succ n ih =>
    intro M l0 M' hf h0 H locs ls hW hl
    rw [X7_takeWord_P5] at hf
    refine lv_aload_n hx hb dX7_takeWord_5 rfl (lv_at hl 0 rfl) ?_
    refine z_get_7_4 B hW h0 q220 dX7_takeWord_6 ?_
    refine lv_aload_n hx hb dX7_takeWord_9 rfl (lv_at hl 0 rfl) ?_
    refine z_get_7_1 B hW h0 q216 dX7_takeWord_10 ?_
    refine lv_icmp_ge (tgt := 44) hx hb dX7_takeWord_13 (by decide) (fun c3 => ?_) (fun c3 => ?_)
    · have hf := z_it c3 hf
      have hf := Option.some.inj hf
      subst hf
      exact z_rv B hW dX7_takeWord_44
    · have hf := z_if c3 hf
      refine lv_aload_n hx hb dX7_takeWord_16 rfl (lv_at hl 0 rfl) ?_
      refine z_get_7_0 B hW h0 q215 dX7_takeWord_17 ?_
      refine lv_aload_n hx hb dX7_takeWord_20 rfl (lv_at hl 0 rfl) ?_
      refine z_get_7_4 B hW h0 q220 dX7_takeWord_21 ?_
      obtain ⟨g4, hf⟩ := z_gd hf
      refine z_ia B hW (z_g7_0 hg h0) g4 dX7_takeWord_24 ?_
      refine z_cS (As := [.int (M.1 (z_r Γ l0 0) ((M.1 l0 4).toNatClampNeg))]) (rest := []) B hW (f_X7_isLetter l) sc_X7_isLetter ⟨q658, q659⟩ ⟨Nat.le_of_ble_eq_true rfl, Nat.le_of_ble_eq_true rfl⟩ ⟨Nat.zero_le _, Nat.zero_le _⟩ rfl hl.1 rfl (Nat.le_of_ble_eq_true rfl) dX7_takeWord_25 (fun H locs hW => ?_)
      refine lv_if_eq (tgt := 44) hx hb dX7_takeWord_28 (by decide) (fun c7 => ?_) (fun c7 => ?_)
      · have hf := z_it c7 hf
        have hf := Option.some.inj hf
        subst hf
        exact z_rv B hW dX7_takeWord_44
      · have hf := z_if c7 hf
        refine lv_aload_n hx hb dX7_takeWord_31 rfl (lv_at hl 0 rfl) ?_
        refine lv_dup hx hb dX7_takeWord_32 rfl ?_
        refine z_get_7_4 B hW h0 q220 dX7_takeWord_33 ?_
        refine lv_iconst (v := 1) hx hb dX7_takeWord_36 (by decide) ?_
        refine lv_iadd hx hb dX7_takeWord_37 ?_
        refine z_put_7_4 B hW h0 q220 dX7_takeWord_38 (fun H locs hW => ?_)
        obtain ⟨M8, e9, hf⟩ := z_le hf
        have hW := z_wde e9 hW
        refine lv_goto (tgt := 5) hx hb dX7_takeWord_41 (by decide) ?_
        exact ih M8 l0 _ hf h0 _ _ _ hW (lv_sub hl [0] rfl)
set_option maxHeartbeats 4000000 in
set_option maxRecDepth 100000 in
theorem f_X7_takeWord (l : Launch) {Γ : Zg} {M : Zm} {l0 : Nat} {M' : Zm} (hf : X7_takeWord Γ M l0 = some M') (h0 : z_Is Γ 7 l0) : z_Fn l Γ yX7_takeWord cX7_takeWord 1 none 1 20 [.ref l0] M none M' := by
  refine z_Fn.of (by decide) (Nat.le_of_ble_eq_true rfl) ?_
  intro p e s m below meth c ls B hW hl
  have B : z_Bd Γ p s m _ meth c cX7_takeWord 1 none RX7 := B
  have hl : lv_has ls 1 [(0, .ref l0)] := hl
  rw [X7_takeWord] at hf
  have hx := B.1
  have hb := B.2.1
  have hml := B.2.2.1
  have ho := B.2.2.2.1
  have hw := B.2.2.2.2.1
  have hE := B.2.2.2.2.2.1.2.2
  have hg := B.2.2.2.2.2.2.1
  refine lv_aload_n hx hb dX7_takeWord_0 rfl (lv_at hl 0 rfl) ?_
  refine lv_iconst (v := 1) hx hb dX7_takeWord_1 (by decide) ?_
  refine z_put_7_2 B hW h0 q218 dX7_takeWord_2 (fun H locs hW => ?_)
  obtain ⟨M1, e2, hf⟩ := z_le hf
  have hW := z_wde e2 hW
  exact w_X7_takeWord_P5 B 1000 M1 l0 _ hf h0 _ _ _ hW (lv_sub hl [0] rfl)
set_option maxHeartbeats 4000000 in
set_option maxRecDepth 100000 in
theorem f_X7_isDigit (l : Launch) {Γ : Zg} {M : Zm} {l0 : Int32}  : z_Fn l Γ yX7_isDigit cX7_isDigit 1 (some .boolean) 0 0 [.int l0] M (some (.int (X7_isDigit l0))) M := by
  generalize hf : X7_isDigit l0 = r
  refine z_Fn.of (by decide) (Nat.le_of_ble_eq_true rfl) ?_
  intro p e s m below meth c ls B hW hl
  have B : z_Bd Γ p s m _ meth c cX7_isDigit 1 (some .boolean) RX7 := B
  have hl : lv_has ls 1 [(0, .int l0)] := hl
  rw [X7_isDigit] at hf
  have hx := B.1
  have hb := B.2.1
  have hml := B.2.2.1
  have ho := B.2.2.2.1
  have hw := B.2.2.2.2.1
  have hE := B.2.2.2.2.2.1.2.2
  have hg := B.2.2.2.2.2.2.1
  refine lv_iload_n hx hb dX7_isDigit_0 rfl (lv_at hl 0 rfl) ?_
  refine lv_bipush (v := 48) hx hb dX7_isDigit_1 (by decide) ?_
  refine lv_icmp_lt (tgt := 16) hx hb dX7_isDigit_3 (by decide) (fun c1 => ?_) (fun c1 => ?_)
  · have hf := z_it c1 hf
    refine lv_iconst (v := 0) hx hb dX7_isDigit_16 (by decide) ?_
    subst hf
    exact z_rz B hW (Or.inl rfl) dX7_isDigit_17
  · have hf := z_if c1 hf
    refine lv_iload_n hx hb dX7_isDigit_6 rfl (lv_at hl 0 rfl) ?_
    refine lv_bipush (v := 57) hx hb dX7_isDigit_7 (by decide) ?_
    refine lv_icmp_gt (tgt := 16) hx hb dX7_isDigit_9 (by decide) (fun c2 => ?_) (fun c2 => ?_)
    · have hf := z_it c2 hf
      refine lv_iconst (v := 0) hx hb dX7_isDigit_16 (by decide) ?_
      subst hf
      exact z_rz B hW (Or.inl rfl) dX7_isDigit_17
    · have hf := z_if c2 hf
      refine lv_iconst (v := 1) hx hb dX7_isDigit_12 (by decide) ?_
      refine lv_goto (tgt := 17) hx hb dX7_isDigit_13 (by decide) ?_
      subst hf
      exact z_rz B hW (Or.inr rfl) dX7_isDigit_17
set_option maxHeartbeats 4000000 in
set_option maxRecDepth 100000 in
theorem w_X7_takeNumber_P10 (B : z_Bd Γ p s m args meth c cX7_takeNumber 1 none RX7) : ∀ (n : Nat) (M : Zm) (l0 : Nat) (M' : Zm), X7_takeNumber_P10 Γ n M l0 = some M' → z_Is Γ 7 l0 → ∀ (H : Heap) (locs : List Loc) (ls : Array Slot), z_Wd Γ M s.heap H locs → lv_has ls 1 [(0, .ref l0)] → W p l e (z_rm 1 40) s m args below meth c H locs 0 0 (z_Q Γ below args s none M') (F0 m 10 ls []) := by
  have hx := B.1
  have hb := B.2.1
  have hml := B.2.2.1
  have ho := B.2.2.2.1
  have hw := B.2.2.2.2.1
  have hE := B.2.2.2.2.2.1.2.2
  have hg := B.2.2.2.2.2.2.1
  intro n
  induction n with
  | zero =>
    intro M l0 M' hf h0 H locs ls hW hl
    cases hf
  | succ n ih =>
    intro M l0 M' hf h0 H locs ls hW hl
    rw [X7_takeNumber_P10] at hf
    refine lv_aload_n hx hb dX7_takeNumber_10 rfl (lv_at hl 0 rfl) ?_
    refine z_get_7_4 B hW h0 q220 dX7_takeNumber_11 ?_
    refine lv_aload_n hx hb dX7_takeNumber_14 rfl (lv_at hl 0 rfl) ?_
    refine z_get_7_1 B hW h0 q216 dX7_takeNumber_15 ?_
    refine lv_icmp_ge (tgt := 79) hx hb dX7_takeNumber_18 (by decide) (fun c5 => ?_) (fun c5 => ?_)
    · have hf := z_it c5 hf
      have hf := Option.some.inj hf
      subst hf
      exact z_rv B hW dX7_takeNumber_79
    · have hf := z_if c5 hf
      refine lv_aload_n hx hb dX7_takeNumber_21 rfl (lv_at hl 0 rfl) ?_
      refine z_get_7_0 B hW h0 q215 dX7_takeNumber_22 ?_
      refine lv_aload_n hx hb dX7_takeNumber_25 rfl (lv_at hl 0 rfl) ?_
      refine z_get_7_4 B hW h0 q220 dX7_takeNumber_26 ?_
      obtain ⟨g6, hf⟩ := z_gd hf
      refine z_ia B hW (z_g7_0 hg h0) g6 dX7_takeNumber_29 ?_
      refine z_cS (As := [.int (M.1 (z_r Γ l0 0) ((M.1 l0 4).toNatClampNeg))]) (rest := []) B hW (f_X7_isDigit l) sc_X7_isDigit ⟨q665, q666⟩ ⟨Nat.le_of_ble_eq_true rfl, Nat.le_of_ble_eq_true rfl⟩ ⟨Nat.zero_le _, Nat.zero_le _⟩ rfl hl.1 rfl (Nat.le_of_ble_eq_true rfl) dX7_takeNumber_30 (fun H locs hW => ?_)
      refine lv_if_eq (tgt := 79) hx hb dX7_takeNumber_33 (by decide) (fun c9 => ?_) (fun c9 => ?_)
      · have hf := z_it c9 hf
        have hf := Option.some.inj hf
        subst hf
        exact z_rv B hW dX7_takeNumber_79
      · have hf := z_if c9 hf
        refine lv_aload_n hx hb dX7_takeNumber_36 rfl (lv_at hl 0 rfl) ?_
        refine lv_bipush (v := 10) hx hb dX7_takeNumber_37 (by decide) ?_
        refine lv_aload_n hx hb dX7_takeNumber_39 rfl (lv_at hl 0 rfl) ?_
        refine z_get_7_5 B hW h0 q221 dX7_takeNumber_40 ?_
        refine lv_imul hx hb dX7_takeNumber_43 ?_
        refine lv_aload_n hx hb dX7_takeNumber_44 rfl (lv_at hl 0 rfl) ?_
        refine z_get_7_0 B hW h0 q215 dX7_takeNumber_45 ?_
        refine lv_aload_n hx hb dX7_takeNumber_48 rfl (lv_at hl 0 rfl) ?_
        refine z_get_7_4 B hW h0 q220 dX7_takeNumber_49 ?_
        obtain ⟨g10, hf⟩ := z_gd hf
        refine z_ia B hW (z_g7_0 hg h0) g10 dX7_takeNumber_52 ?_
        refine lv_iadd hx hb dX7_takeNumber_53 ?_
        refine lv_bipush (v := 48) hx hb dX7_takeNumber_54 (by decide) ?_
        refine lv_isub hx hb dX7_takeNumber_56 ?_
        refine lv_sipush (v := 1000) hx hb dX7_takeNumber_57 (by decide) ?_
        refine va_mmin hx hb (hml.trans hl.1.symm) ho (hw _ q672) (hw _ q518) (hw _ q79) (hw _ q519) (Nat.le_of_ble_eq_true rfl) (Nat.le_of_ble_eq_true rfl) (Nat.zero_le _) (Nat.zero_le _) dX7_takeNumber_60 ?_
        refine z_put_7_5 B hW h0 q221 dX7_takeNumber_63 (fun H locs hW => ?_)
        obtain ⟨M11, e12, hf⟩ := z_le hf
        have hW := z_wde e12 hW
        refine lv_aload_n hx hb dX7_takeNumber_66 rfl (lv_at hl 0 rfl) ?_
        refine lv_dup hx hb dX7_takeNumber_67 rfl ?_
        refine z_get_7_4 B hW h0 q220 dX7_takeNumber_68 ?_
        refine lv_iconst (v := 1) hx hb dX7_takeNumber_71 (by decide) ?_
        refine lv_iadd hx hb dX7_takeNumber_72 ?_
        refine z_put_7_4 B hW h0 q220 dX7_takeNumber_73 (fun H locs hW => ?_)
        obtain ⟨M13, e14, hf⟩ := z_le hf
        have hW := z_wde e14 hW
        refine lv_goto (tgt := 10) hx hb dX7_takeNumber_76 (by decide) ?_
        exact ih M13 l0 _ hf h0 _ _ _ hW (lv_sub hl [0] rfl)
set_option maxHeartbeats 4000000 in
set_option maxRecDepth 100000 in
theorem f_X7_takeNumber (l : Launch) {Γ : Zg} {M : Zm} {l0 : Nat} {M' : Zm} (hf : X7_takeNumber Γ M l0 = some M') (h0 : z_Is Γ 7 l0) : z_Fn l Γ yX7_takeNumber cX7_takeNumber 1 none 1 40 [.ref l0] M none M' := by
  refine z_Fn.of (by decide) (Nat.le_of_ble_eq_true rfl) ?_
  intro p e s m below meth c ls B hW hl
  have B : z_Bd Γ p s m _ meth c cX7_takeNumber 1 none RX7 := B
  have hl : lv_has ls 1 [(0, .ref l0)] := hl
  rw [X7_takeNumber] at hf
  have hx := B.1
  have hb := B.2.1
  have hml := B.2.2.1
  have ho := B.2.2.2.1
  have hw := B.2.2.2.2.1
  have hE := B.2.2.2.2.2.1.2.2
  have hg := B.2.2.2.2.2.2.1
  refine lv_aload_n hx hb dX7_takeNumber_0 rfl (lv_at hl 0 rfl) ?_
  refine lv_iconst (v := 2) hx hb dX7_takeNumber_1 (by decide) ?_
  refine z_put_7_2 B hW h0 q218 dX7_takeNumber_2 (fun H locs hW => ?_)
  obtain ⟨M1, e2, hf⟩ := z_le hf
  have hW := z_wde e2 hW
  refine lv_aload_n hx hb dX7_takeNumber_5 rfl (lv_at hl 0 rfl) ?_
  refine lv_iconst (v := 0) hx hb dX7_takeNumber_6 (by decide) ?_
  refine z_put_7_5 B hW h0 q221 dX7_takeNumber_7 (fun H locs hW => ?_)
  obtain ⟨M3, e4, hf⟩ := z_le hf
  have hW := z_wde e4 hW
  exact w_X7_takeNumber_P10 B 1000 M3 l0 _ hf h0 _ _ _ hW (lv_sub hl [0] rfl)
set_option maxHeartbeats 4000000 in
set_option maxRecDepth 100000 in
theorem w_X7_advance_P46 (B : z_Bd Γ p s m args meth c cX7_advance 1 none RX7) : ∀ (M : Zm) (l0 : Nat) (M' : Zm), X7_advance_P46 Γ M l0 = some M' → z_Is Γ 7 l0 → ∀ (H : Heap) (locs : List Loc) (ls : Array Slot), z_Wd Γ M s.heap H locs → lv_has ls 1 [(0, .ref l0)] → W p l e (z_rm 2 60) s m args below meth c H locs 0 0 (z_Q Γ below args s none M') (F0 m 46 ls []) := by
  have hx := B.1
  have hb := B.2.1
  have hml := B.2.2.1
  have ho := B.2.2.2.1
  have hw := B.2.2.2.2.1
  have hE := B.2.2.2.2.2.1.2.2
  have hg := B.2.2.2.2.2.2.1
  intro M l0 M' hf h0 H locs ls hW hl
  rw [X7_advance_P46] at hf
  refine lv_aload_n hx hb dX7_advance_46 rfl (lv_at hl 0 rfl) ?_
  refine lv_aload_n hx hb dX7_advance_47 rfl (lv_at hl 0 rfl) ?_
  refine z_get_7_3 B hW h0 q219 dX7_advance_48 ?_
  refine z_put_7_4 B hW h0 q220 dX7_advance_51 (fun H locs hW => ?_)
  obtain ⟨M8, e9, hf⟩ := z_le hf
  have hW := z_wde e9 hW
  refine lv_aload_n hx hb dX7_advance_54 rfl (lv_at hl 0 rfl) ?_
  refine z_get_7_3 B hW h0 q219 dX7_advance_55 ?_
  refine lv_aload_n hx hb dX7_advance_58 rfl (lv_at hl 0 rfl) ?_
  refine z_get_7_1 B hW h0 q216 dX7_advance_59 ?_
  refine lv_icmp_lt (tgt := 73) hx hb dX7_advance_62 (by decide) (fun c10 => ?_) (fun c10 => ?_)
  · have hf := z_it c10 hf
    refine lv_aload_n hx hb dX7_advance_73 rfl (lv_at hl 0 rfl) ?_
    refine z_get_7_0 B hW h0 q215 dX7_advance_74 ?_
    refine lv_aload_n hx hb dX7_advance_77 rfl (lv_at hl 0 rfl) ?_
    refine z_get_7_3 B hW h0 q219 dX7_advance_78 ?_
    obtain ⟨g11, hf⟩ := z_gd hf
    refine z_ia B hW (z_g7_0 hg h0) g11 dX7_advance_81 ?_
    refine z_cS (As := [.int (M8.1 (z_r Γ l0 0) ((M8.1 l0 3).toNatClampNeg))]) (rest := []) B hW (f_X7_isLetter l) sc_X7_isLetter ⟨q658, q659⟩ ⟨Nat.le_of_ble_eq_true rfl, Nat.le_of_ble_eq_true rfl⟩ ⟨Nat.zero_le _, Nat.zero_le _⟩ rfl hl.1 rfl (Nat.le_of_ble_eq_true rfl) dX7_advance_82 (fun H locs hW => ?_)
    refine lv_if_eq (tgt := 95) hx hb dX7_advance_85 (by decide) (fun c14 => ?_) (fun c14 => ?_)
    · have hf := z_it c14 hf
      refine lv_aload_n hx hb dX7_advance_95 rfl (lv_at hl 0 rfl) ?_
      refine z_get_7_0 B hW h0 q215 dX7_advance_96 ?_
      refine lv_aload_n hx hb dX7_advance_99 rfl (lv_at hl 0 rfl) ?_
      refine z_get_7_3 B hW h0 q219 dX7_advance_100 ?_
      obtain ⟨g15, hf⟩ := z_gd hf
      refine z_ia B hW (z_g7_0 hg h0) g15 dX7_advance_103 ?_
      refine z_cS (As := [.int (M8.1 (z_r Γ l0 0) ((M8.1 l0 3).toNatClampNeg))]) (rest := []) B hW (f_X7_isDigit l) sc_X7_isDigit ⟨q665, q666⟩ ⟨Nat.le_of_ble_eq_true rfl, Nat.le_of_ble_eq_true rfl⟩ ⟨Nat.zero_le _, Nat.zero_le _⟩ rfl hl.1 rfl (Nat.le_of_ble_eq_true rfl) dX7_advance_104 (fun H locs hW => ?_)
      refine lv_if_eq (tgt := 117) hx hb dX7_advance_107 (by decide) (fun c18 => ?_) (fun c18 => ?_)
      · have hf := z_it c18 hf
        refine lv_aload_n hx hb dX7_advance_117 rfl (lv_at hl 0 rfl) ?_
        refine lv_aload_n hx hb dX7_advance_118 rfl (lv_at hl 0 rfl) ?_
        refine z_get_7_0 B hW h0 q215 dX7_advance_119 ?_
        refine lv_aload_n hx hb dX7_advance_122 rfl (lv_at hl 0 rfl) ?_
        refine z_get_7_3 B hW h0 q219 dX7_advance_123 ?_
        obtain ⟨g19, hf⟩ := z_gd hf
        refine z_ia B hW (z_g7_0 hg h0) g19 dX7_advance_126 ?_
        refine lv_bipush (v := 59) hx hb dX7_advance_127 (by decide) ?_
        refine lv_icmp_ne (tgt := 136) hx hb dX7_advance_129 (by decide) (fun c20 => ?_) (fun c20 => ?_)
        · have hf := z_if c20 hf
          refine lv_iconst (v := 4) hx hb dX7_advance_136 (by decide) ?_
          refine z_put_7_2 B hW h0 q218 dX7_advance_137 (fun H locs hW => ?_)
          obtain ⟨M21, e22, hf⟩ := z_le hf
          have hW := z_wde e22 hW
          refine lv_aload_n hx hb dX7_advance_140 rfl (lv_at hl 0 rfl) ?_
          refine lv_dup hx hb dX7_advance_141 rfl ?_
          refine z_get_7_4 B hW h0 q220 dX7_advance_142 ?_
          refine lv_iconst (v := 1) hx hb dX7_advance_145 (by decide) ?_
          refine lv_iadd hx hb dX7_advance_146 ?_
          refine z_put_7_4 B hW h0 q220 dX7_advance_147 (fun H locs hW => ?_)
          obtain ⟨M23, e24, hf⟩ := z_le hf
          have hW := z_wde e24 hW
          have hf := Option.some.inj hf
          subst hf
          exact z_rv B hW dX7_advance_150
        · have hf := z_it c20 hf
          refine lv_iconst (v := 3) hx hb dX7_advance_132 (by decide) ?_
          refine lv_goto (tgt := 137) hx hb dX7_advance_133 (by decide) ?_
          refine z_put_7_2 B hW h0 q218 dX7_advance_137 (fun H locs hW => ?_)
          obtain ⟨M25, e26, hf⟩ := z_le hf
          have hW := z_wde e26 hW
          refine lv_aload_n hx hb dX7_advance_140 rfl (lv_at hl 0 rfl) ?_
          refine lv_dup hx hb dX7_advance_141 rfl ?_
          refine z_get_7_4 B hW h0 q220 dX7_advance_142 ?_
          refine lv_iconst (v := 1) hx hb dX7_advance_145 (by decide) ?_
          refine lv_iadd hx hb dX7_advance_146 ?_
          refine z_put_7_4 B hW h0 q220 dX7_advance_147 (fun H locs hW => ?_)
          obtain ⟨M27, e28, hf⟩ := z_le hf
          have hW := z_wde e28 hW
          have hf := Option.some.inj hf
          subst hf
          exact z_rv B hW dX7_advance_150
      · have hf := z_if c18 hf
        refine lv_aload_n hx hb dX7_advance_110 rfl (lv_at hl 0 rfl) ?_
        obtain ⟨M30, e31, hf⟩ := z_bd hf
        refine z_cV (As := []) (rest := []) B hW (f_X7_takeNumber l e31 h0) sc_X7_takeNumber sv_X7_133 h0 ⟨Nat.le_of_ble_eq_true rfl, Nat.le_of_ble_eq_true rfl⟩ ⟨Nat.zero_le _, Nat.zero_le _⟩ rfl hl.1 rfl (Nat.le_of_ble_eq_true rfl) dX7_advance_111 (fun H locs hW => ?_)
        refine lv_goto (tgt := 150) hx hb dX7_advance_114 (by decide) ?_
        have hf := Option.some.inj hf
        subst hf
        exact z_rv B hW dX7_advance_150
    · have hf := z_if c14 hf
      refine lv_aload_n hx hb dX7_advance_88 rfl (lv_at hl 0 rfl) ?_
      obtain ⟨M33, e34, hf⟩ := z_bd hf
      refine z_cV (As := []) (rest := []) B hW (f_X7_takeWord l e34 h0) sc_X7_takeWord sv_X7_127 h0 ⟨Nat.le_of_ble_eq_true rfl, Nat.le_of_ble_eq_true rfl⟩ ⟨Nat.zero_le _, Nat.zero_le _⟩ rfl hl.1 rfl (Nat.le_of_ble_eq_true rfl) dX7_advance_89 (fun H locs hW => ?_)
      refine lv_goto (tgt := 150) hx hb dX7_advance_92 (by decide) ?_
      have hf := Option.some.inj hf
      subst hf
      exact z_rv B hW dX7_advance_150
  · have hf := z_if c10 hf
    refine lv_aload_n hx hb dX7_advance_65 rfl (lv_at hl 0 rfl) ?_
    refine lv_iconst (v := 0) hx hb dX7_advance_66 (by decide) ?_
    refine z_put_7_2 B hW h0 q218 dX7_advance_67 (fun H locs hW => ?_)
    obtain ⟨M35, e36, hf⟩ := z_le hf
    have hW := z_wde e36 hW
    refine lv_goto (tgt := 150) hx hb dX7_advance_70 (by decide) ?_
    have hf := Option.some.inj hf
    subst hf
    exact z_rv B hW dX7_advance_150
set_option maxHeartbeats 4000000 in
set_option maxRecDepth 100000 in
theorem w_X7_advance_P8 (B : z_Bd Γ p s m args meth c cX7_advance 1 none RX7) : ∀ (n : Nat) (M : Zm) (l0 : Nat) (M' : Zm), X7_advance_P8 Γ n M l0 = some M' → z_Is Γ 7 l0 → ∀ (H : Heap) (locs : List Loc) (ls : Array Slot), z_Wd Γ M s.heap H locs → lv_has ls 1 [(0, .ref l0)] → W p l e (z_rm 2 60) s m args below meth c H locs 0 0 (z_Q Γ below args s none M') (F0 m 8 ls []) := by
  have hx := B.1
  have hb := B.2.1
  have hml := B.2.2.1
  have ho := B.2.2.2.1
  have hw := B.2.2.2.2.1
  have hE := B.2.2.2.2.2.1.2.2
  have hg := B.2.2.2.2.2.2.1
  intro n
  induction n with
  | zero =>
    intro M l0 M' hf h0 H locs ls hW hl
    cases hf
  | succ n ih =>
    intro M l0 M' hf h0 H locs ls hW hl
    rw [X7_advance_P8] at hf
    refine lv_aload_n hx hb dX7_advance_8 rfl (lv_at hl 0 rfl) ?_
    refine z_get_7_3 B hW h0 q219 dX7_advance_9 ?_
    refine lv_aload_n hx hb dX7_advance_12 rfl (lv_at hl 0 rfl) ?_
    refine z_get_7_1 B hW h0 q216 dX7_advance_13 ?_
    refine lv_icmp_ge (tgt := 46) hx hb dX7_advance_16 (by decide) (fun c3 => ?_) (fun c3 => ?_)
    · have hf := z_it c3 hf
      exact w_X7_advance_P46 B M l0 _ hf h0 _ _ _ hW (lv_sub hl [0] rfl)
    · have hf := z_if c3 hf
      refine lv_aload_n hx hb dX7_advance_19 rfl (lv_at hl 0 rfl) ?_
      refine z_get_7_0 B hW h0 q215 dX7_advance_20 ?_
      refine lv_aload_n hx hb dX7_advance_23 rfl (lv_at hl 0 rfl) ?_
      refine z_get_7_3 B hW h0 q219 dX7_advance_24 ?_
      obtain ⟨g4, hf⟩ := z_gd hf
      refine z_ia B hW (z_g7_0 hg h0) g4 dX7_advance_27 ?_
      refine lv_bipush (v := 32) hx hb dX7_advance_28 (by decide) ?_
      refine lv_icmp_ne (tgt := 46) hx hb dX7_advance_30 (by decide) (fun c5 => ?_) (fun c5 => ?_)
      · have hf := z_if c5 hf
        exact w_X7_advance_P46 B M l0 _ hf h0 _ _ _ hW (lv_sub hl [0] rfl)
      · have hf := z_it c5 hf
        refine lv_aload_n hx hb dX7_advance_33 rfl (lv_at hl 0 rfl) ?_
        refine lv_dup hx hb dX7_advance_34 rfl ?_
        refine z_get_7_3 B hW h0 q219 dX7_advance_35 ?_
        refine lv_iconst (v := 1) hx hb dX7_advance_38 (by decide) ?_
        refine lv_iadd hx hb dX7_advance_39 ?_
        refine z_put_7_3 B hW h0 q219 dX7_advance_40 (fun H locs hW => ?_)
        obtain ⟨M6, e7, hf⟩ := z_le hf
        have hW := z_wde e7 hW
        refine lv_goto (tgt := 8) hx hb dX7_advance_43 (by decide) ?_
        exact ih M6 l0 _ hf h0 _ _ _ hW (lv_sub hl [0] rfl)
set_option maxHeartbeats 4000000 in
set_option maxRecDepth 100000 in
theorem f_X7_advance (l : Launch) {Γ : Zg} {M : Zm} {l0 : Nat} {M' : Zm} (hf : X7_advance Γ M l0 = some M') (h0 : z_Is Γ 7 l0) : z_Fn l Γ yX7_advance cX7_advance 1 none 2 60 [.ref l0] M none M' := by
  refine z_Fn.of (by decide) (Nat.le_of_ble_eq_true rfl) ?_
  intro p e s m below meth c ls B hW hl
  have B : z_Bd Γ p s m _ meth c cX7_advance 1 none RX7 := B
  have hl : lv_has ls 1 [(0, .ref l0)] := hl
  rw [X7_advance] at hf
  have hx := B.1
  have hb := B.2.1
  have hml := B.2.2.1
  have ho := B.2.2.2.1
  have hw := B.2.2.2.2.1
  have hE := B.2.2.2.2.2.1.2.2
  have hg := B.2.2.2.2.2.2.1
  refine lv_aload_n hx hb dX7_advance_0 rfl (lv_at hl 0 rfl) ?_
  refine lv_aload_n hx hb dX7_advance_1 rfl (lv_at hl 0 rfl) ?_
  refine z_get_7_4 B hW h0 q220 dX7_advance_2 ?_
  refine z_put_7_3 B hW h0 q219 dX7_advance_5 (fun H locs hW => ?_)
  obtain ⟨M1, e2, hf⟩ := z_le hf
  have hW := z_wde e2 hW
  exact w_X7_advance_P8 B 1000 M1 l0 _ hf h0 _ _ _ hW (lv_sub hl [0] rfl)
set_option maxHeartbeats 4000000 in
set_option maxRecDepth 100000 in
theorem f_X7_nameOf (l : Launch) {Γ : Zg} {M : Zm} {l0 : Int32}  : z_Fn l Γ yX7_nameOf cX7_nameOf 1 (some (.object "java/lang/String")) 0 0 [.int l0] M (some (.ref (z_sK Γ (X7_nameOf l0)))) M := by
  generalize hf : X7_nameOf l0 = r
  refine z_Fn.of (by decide) (Nat.le_of_ble_eq_true rfl) ?_
  intro p e s m below meth c ls B hW hl
  have B : z_Bd Γ p s m _ meth c cX7_nameOf 1 (some (.object "java/lang/String")) RX7 := B
  have hl : lv_has ls 1 [(0, .int l0)] := hl
  rw [X7_nameOf] at hf
  have hx := B.1
  have hb := B.2.1
  have hml := B.2.2.1
  have ho := B.2.2.2.1
  have hw := B.2.2.2.2.1
  have hE := B.2.2.2.2.2.1.2.2
  have hg := B.2.2.2.2.2.2.1
  refine lv_iload_n hx hb dX7_nameOf_0 rfl (lv_at hl 0 rfl) ?_
  by_cases c1 : l0 = (0 : Int32)
  · have hf := z_it c1 hf
    refine lv_tableIn (off := 35) (tgt := 36) hx hb dX7_nameOf_1 (by rw [c1]; decide) (by rw [c1]; decide) (by rw [c1]; decide) (by decide) ?_
    refine va_ldcS hx hb ho hE.2.1.1 dX7_nameOf_36 ?_
    subst hf
    exact z_ra B hW dX7_nameOf_38
  · have hf := z_if c1 hf
    by_cases c2 : l0 = (1 : Int32)
    · have hf := z_it c2 hf
      refine lv_tableIn (off := 38) (tgt := 39) hx hb dX7_nameOf_1 (by rw [c2]; decide) (by rw [c2]; decide) (by rw [c2]; decide) (by decide) ?_
      refine va_ldcS hx hb ho hE.2.1.2.1 dX7_nameOf_39 ?_
      subst hf
      exact z_ra B hW dX7_nameOf_41
    · have hf := z_if c2 hf
      by_cases c3 : l0 = (2 : Int32)
      · have hf := z_it c3 hf
        refine lv_tableIn (off := 41) (tgt := 42) hx hb dX7_nameOf_1 (by rw [c3]; decide) (by rw [c3]; decide) (by rw [c3]; decide) (by decide) ?_
        refine va_ldcS hx hb ho hE.2.1.2.2.1 dX7_nameOf_42 ?_
        subst hf
        exact z_ra B hW dX7_nameOf_44
      · have hf := z_if c3 hf
        by_cases c4 : l0 = (3 : Int32)
        · have hf := z_it c4 hf
          refine lv_tableIn (off := 44) (tgt := 45) hx hb dX7_nameOf_1 (by rw [c4]; decide) (by rw [c4]; decide) (by rw [c4]; decide) (by decide) ?_
          refine va_ldcS hx hb ho hE.2.1.2.2.2.1 dX7_nameOf_45 ?_
          subst hf
          exact z_ra B hW dX7_nameOf_47
        · have hf := z_if c4 hf
          by_cases c5 : l0 = (4 : Int32)
          · have hf := z_it c5 hf
            refine lv_tableIn (off := 47) (tgt := 48) hx hb dX7_nameOf_1 (by rw [c5]; decide) (by rw [c5]; decide) (by rw [c5]; decide) (by decide) ?_
            refine va_ldcS hx hb ho hE.2.1.2.2.2.2.1 dX7_nameOf_48 ?_
            subst hf
            exact z_ra B hW dX7_nameOf_50
          · have hf := z_if c5 hf
            have hsw : l0.toInt < 0 ∨ 4 < l0.toInt := by
              have ec1 := z_nei 0 (by decide) c1
              have ec2 := z_nei 1 (by decide) c2
              have ec3 := z_nei 2 (by decide) c3
              have ec4 := z_nei 3 (by decide) c4
              have ec5 := z_nei 4 (by decide) c5
              omega
            refine lv_tableOut (tgt := 51) hx hb dX7_nameOf_1 hsw (by decide) ?_
            refine va_ldcS hx hb ho hE.2.1.2.2.2.2.2.1 dX7_nameOf_51 ?_
            subst hf
            exact z_ra B hW dX7_nameOf_53
set_option maxHeartbeats 4000000 in
set_option maxRecDepth 100000 in
theorem w_X7_isWord_P28 (B : z_Bd Γ p s m args meth c cX7_isWord 3 (some .boolean) RX7) : ∀ (n : Nat) (M : Zm) (l0 : Nat) (l1 : Nat) (l2 : Int32) (r : Int32), X7_isWord_P28 Γ n M l0 l1 l2 = some r → z_Is Γ 7 l0 → l1 < 10 → ∀ (H : Heap) (locs : List Loc) (ls : Array Slot), z_Wd Γ M s.heap H locs → lv_has ls 3 [(0, .ref l0), (1, .ref (z_sK Γ l1)), (2, .int l2)] → W p l e (z_rm 5 131) s m args below meth c H locs 0 0 (z_Q Γ below args s (some (.int r)) M) (F0 m 28 ls []) := by
  have hx := B.1
  have hb := B.2.1
  have hml := B.2.2.1
  have ho := B.2.2.2.1
  have hw := B.2.2.2.2.1
  have hE := B.2.2.2.2.2.1.2.2
  have hg := B.2.2.2.2.2.2.1
  intro n
  induction n with
  | zero =>
    intro M l0 l1 l2 r hf h0 h1 H locs ls hW hl
    cases hf
  | succ n ih =>
    intro M l0 l1 l2 r hf h0 h1 H locs ls hW hl
    rw [X7_isWord_P28] at hf
    refine lv_iload_n hx hb dX7_isWord_28 rfl (lv_at hl 2 rfl) ?_
    refine lv_aload_n hx hb dX7_isWord_29 rfl (lv_at hl 1 rfl) ?_
    refine z_cVs (As := []) (rest := [.int l2]) B hW (f_J0_length_8abf5 l h1) sc_J0_length_8abf5 sv_X7_115 h1 ⟨Nat.le_of_ble_eq_true rfl, Nat.le_of_ble_eq_true rfl⟩ ⟨Nat.zero_le _, Nat.zero_le _⟩ rfl hl.1 rfl (Nat.le_of_ble_eq_true rfl) dX7_isWord_30 (fun H locs hW => ?_)
    refine lv_icmp_ge (tgt := 63) hx hb dX7_isWord_33 (by decide) (fun c7 => ?_) (fun c7 => ?_)
    · have hf := z_it c7 hf
      refine lv_iconst (v := 1) hx hb dX7_isWord_63 (by decide) ?_
      have hf := Option.some.inj hf
      subst hf
      exact z_rz B hW (Or.inr rfl) dX7_isWord_64
    · have hf := z_if c7 hf
      refine lv_aload_n hx hb dX7_isWord_36 rfl (lv_at hl 0 rfl) ?_
      refine z_get_7_0 B hW h0 q215 dX7_isWord_37 ?_
      refine lv_aload_n hx hb dX7_isWord_40 rfl (lv_at hl 0 rfl) ?_
      refine z_get_7_3 B hW h0 q219 dX7_isWord_41 ?_
      refine lv_iload_n hx hb dX7_isWord_44 rfl (lv_at hl 2 rfl) ?_
      refine lv_iadd hx hb dX7_isWord_45 ?_
      obtain ⟨g8, hf⟩ := z_gd hf
      refine z_ia B hW (z_g7_0 hg h0) g8 dX7_isWord_46 ?_
      refine lv_aload_n hx hb dX7_isWord_47 rfl (lv_at hl 1 rfl) ?_
      refine lv_iload_n hx hb dX7_isWord_48 rfl (lv_at hl 2 rfl) ?_
      obtain ⟨r9, e10, hf⟩ := z_bd hf
      refine z_cVs (As := [.int l2]) (rest := [.int (M.1 (z_r Γ l0 0) (((M.1 l0 3) + l2).toNatClampNeg))]) B hW (f_J0_charAt_5068e l e10 h1) sc_J0_charAt_5068e sv_X7_120 h1 ⟨Nat.le_of_ble_eq_true rfl, Nat.le_of_ble_eq_true rfl⟩ ⟨Nat.zero_le _, Nat.zero_le _⟩ rfl hl.1 rfl (Nat.le_of_ble_eq_true rfl) dX7_isWord_49 (fun H locs hW => ?_)
      refine lv_icmp_eq (tgt := 57) hx hb dX7_isWord_52 (by decide) (fun c11 => ?_) (fun c11 => ?_)
      · have hf := z_it c11 hf
        refine lv_iinc (v := l2 + (1 : Int32)) (lv' := [(2, .int (l2 + (1 : Int32))), (0, .ref l0), (1, .ref (z_sK Γ l1))]) hx hb dX7_isWord_57 hl (k := 2) rfl rfl (by decide) rfl (fun ls hl => ?_)
        refine lv_goto (tgt := 28) hx hb dX7_isWord_60 (by decide) ?_
        exact ih M l0 l1 (l2 + (1 : Int32)) _ hf h0 h1 _ _ _ hW (lv_sub hl [1, 2, 0] rfl)
      · have hf := z_if c11 hf
        refine lv_iconst (v := 0) hx hb dX7_isWord_55 (by decide) ?_
        have hf := Option.some.inj hf
        subst hf
        exact z_rz B hW (Or.inl rfl) dX7_isWord_56
set_option maxHeartbeats 4000000 in
set_option maxRecDepth 100000 in
theorem f_X7_isWord (l : Launch) {Γ : Zg} {M : Zm} {l0 : Nat} {l1 : Nat} {r : Int32} (hf : X7_isWord Γ M l0 l1 = some r) (h0 : z_Is Γ 7 l0) (h1 : l1 < 10) : z_Fn l Γ yX7_isWord cX7_isWord 3 (some .boolean) 5 131 [.ref l0, .ref (z_sK Γ l1)] M (some (.int r)) M := by
  refine z_Fn.of (by decide) (Nat.le_of_ble_eq_true rfl) ?_
  intro p e s m below meth c ls B hW hl
  have B : z_Bd Γ p s m _ meth c cX7_isWord 3 (some .boolean) RX7 := B
  have hl : lv_has ls 3 [(0, .ref l0), (1, .ref (z_sK Γ l1))] := hl
  rw [X7_isWord] at hf
  have hx := B.1
  have hb := B.2.1
  have hml := B.2.2.1
  have ho := B.2.2.2.1
  have hw := B.2.2.2.2.1
  have hE := B.2.2.2.2.2.1.2.2
  have hg := B.2.2.2.2.2.2.1
  refine lv_aload_n hx hb dX7_isWord_0 rfl (lv_at hl 0 rfl) ?_
  refine z_get_7_2 B hW h0 q218 dX7_isWord_1 ?_
  refine lv_iconst (v := 1) hx hb dX7_isWord_4 (by decide) ?_
  refine lv_icmp_ne (tgt := 24) hx hb dX7_isWord_5 (by decide) (fun c1 => ?_) (fun c1 => ?_)
  · have hf := z_if c1 hf
    refine lv_iconst (v := 0) hx hb dX7_isWord_24 (by decide) ?_
    have hf := Option.some.inj hf
    subst hf
    exact z_rz B hW (Or.inl rfl) dX7_isWord_25
  · have hf := z_it c1 hf
    refine lv_aload_n hx hb dX7_isWord_8 rfl (lv_at hl 0 rfl) ?_
    refine z_get_7_4 B hW h0 q220 dX7_isWord_9 ?_
    refine lv_aload_n hx hb dX7_isWord_12 rfl (lv_at hl 0 rfl) ?_
    refine z_get_7_3 B hW h0 q219 dX7_isWord_13 ?_
    refine lv_isub hx hb dX7_isWord_16 ?_
    refine lv_aload_n hx hb dX7_isWord_17 rfl (lv_at hl 1 rfl) ?_
    refine z_cVs (As := []) (rest := [.int ((M.1 l0 4) - (M.1 l0 3))]) B hW (f_J0_length_8abf5 l h1) sc_J0_length_8abf5 sv_X7_115 h1 ⟨Nat.le_of_ble_eq_true rfl, Nat.le_of_ble_eq_true rfl⟩ ⟨Nat.zero_le _, Nat.zero_le _⟩ rfl hl.1 rfl (Nat.le_of_ble_eq_true rfl) dX7_isWord_18 (fun H locs hW => ?_)
    refine lv_icmp_eq (tgt := 26) hx hb dX7_isWord_21 (by decide) (fun c4 => ?_) (fun c4 => ?_)
    · have hf := z_it c4 hf
      refine lv_iconst (v := 0) hx hb dX7_isWord_26 (by decide) ?_
      refine lv_istore_n (lv' := [(2, .int (0 : Int32)), (0, .ref l0), (1, .ref (z_sK Γ l1))]) hx hb dX7_isWord_27 rfl hl (by decide) rfl (fun ls hl => ?_)
      exact w_X7_isWord_P28 B 1000 M l0 l1 (0 : Int32) _ hf h0 h1 _ _ _ hW (lv_sub hl [1, 2, 0] rfl)
    · have hf := z_if c4 hf
      refine lv_iconst (v := 0) hx hb dX7_isWord_24 (by decide) ?_
      have hf := Option.some.inj hf
      subst hf
      exact z_rz B hW (Or.inl rfl) dX7_isWord_25
set_option maxHeartbeats 4000000 in
set_option maxRecDepth 100000 in
theorem f_X7_isNumberBelow (l : Launch) {Γ : Zg} {M : Zm} {l0 : Nat} {l1 : Int32} (h0 : z_Is Γ 7 l0) : z_Fn l Γ yX7_isNumberBelow cX7_isNumberBelow 2 (some .boolean) 0 0 [.ref l0, .int l1] M (some (.int (X7_isNumberBelow M l0 l1))) M := by
  generalize hf : X7_isNumberBelow M l0 l1 = r
  refine z_Fn.of (by decide) (Nat.le_of_ble_eq_true rfl) ?_
  intro p e s m below meth c ls B hW hl
  have B : z_Bd Γ p s m _ meth c cX7_isNumberBelow 2 (some .boolean) RX7 := B
  have hl : lv_has ls 2 [(0, .ref l0), (1, .int l1)] := hl
  rw [X7_isNumberBelow] at hf
  have hx := B.1
  have hb := B.2.1
  have hml := B.2.2.1
  have ho := B.2.2.2.1
  have hw := B.2.2.2.2.1
  have hE := B.2.2.2.2.2.1.2.2
  have hg := B.2.2.2.2.2.2.1
  refine lv_aload_n hx hb dX7_isNumberBelow_0 rfl (lv_at hl 0 rfl) ?_
  refine z_get_7_2 B hW h0 q218 dX7_isNumberBelow_1 ?_
  refine lv_iconst (v := 2) hx hb dX7_isNumberBelow_4 (by decide) ?_
  refine lv_icmp_ne (tgt := 20) hx hb dX7_isNumberBelow_5 (by decide) (fun c1 => ?_) (fun c1 => ?_)
  · have hf := z_if c1 hf
    refine lv_iconst (v := 0) hx hb dX7_isNumberBelow_20 (by decide) ?_
    subst hf
    exact z_rz B hW (Or.inl rfl) dX7_isNumberBelow_21
  · have hf := z_it c1 hf
    refine lv_aload_n hx hb dX7_isNumberBelow_8 rfl (lv_at hl 0 rfl) ?_
    refine z_get_7_5 B hW h0 q221 dX7_isNumberBelow_9 ?_
    refine lv_iload_n hx hb dX7_isNumberBelow_12 rfl (lv_at hl 1 rfl) ?_
    refine lv_icmp_ge (tgt := 20) hx hb dX7_isNumberBelow_13 (by decide) (fun c2 => ?_) (fun c2 => ?_)
    · have hf := z_it c2 hf
      refine lv_iconst (v := 0) hx hb dX7_isNumberBelow_20 (by decide) ?_
      subst hf
      exact z_rz B hW (Or.inl rfl) dX7_isNumberBelow_21
    · have hf := z_if c2 hf
      refine lv_iconst (v := 1) hx hb dX7_isNumberBelow_16 (by decide) ?_
      refine lv_goto (tgt := 21) hx hb dX7_isNumberBelow_17 (by decide) ?_
      subst hf
      exact z_rz B hW (Or.inr rfl) dX7_isNumberBelow_21
set_option maxHeartbeats 4000000 in
set_option maxRecDepth 100000 in
theorem w_X7_tellKnown_P17 (B : z_Bd Γ p s m args meth c cX7_tellKnown 3 (some .boolean) RX7) : ∀ (n : Nat) (M : Zm) (l0 : Nat) (l1 : Nat) (l2 : Int32) (r : Int32) (M' : Zm), X7_tellKnown_P17 Γ n M l0 l1 l2 = some (r, M') → z_Is Γ 7 l0 → z_Is Γ 8 l1 → ∀ (H : Heap) (locs : List Loc) (ls : Array Slot), z_Wd Γ M s.heap H locs → lv_has ls 3 [(0, .ref l0), (1, .ref l1), (2, .int l2)] → W p l e (z_rm 3 80) s m args below meth c H locs 0 0 (z_Q Γ below args s (some (.int r)) M') (F0 m 17 ls []) := by
  have hx := B.1
  have hb := B.2.1
  have hml := B.2.2.1
  have ho := B.2.2.2.1
  have hw := B.2.2.2.2.1
  have hE := B.2.2.2.2.2.1.2.2
  have hg := B.2.2.2.2.2.2.1
  intro n
  induction n with
  | zero =>
    intro M l0 l1 l2 r M' hf h0 h1 H locs ls hW hl
    cases hf
  | succ n ih =>
    intro M l0 l1 l2 r M' hf h0 h1 H locs ls hW hl
    rw [X7_tellKnown_P17] at hf
    refine lv_iload_n hx hb dX7_tellKnown_17 rfl (lv_at hl 2 rfl) ?_
    refine lv_iconst (v := 4) hx hb dX7_tellKnown_18 (by decide) ?_
    refine lv_icmp_ge (tgt := 56) hx hb dX7_tellKnown_19 (by decide) (fun c7 => ?_) (fun c7 => ?_)
    · have hf := z_it c7 hf
      refine lv_iconst (v := 1) hx hb dX7_tellKnown_56 (by decide) ?_
      obtain ⟨e1, e2⟩ := z_s2 hf
      subst e1
      subst e2
      exact z_rz B hW (Or.inr rfl) dX7_tellKnown_57
    · have hf := z_if c7 hf
      refine lv_aload_n hx hb dX7_tellKnown_22 rfl (lv_at hl 0 rfl) ?_
      refine lv_bipush (v := 10) hx hb dX7_tellKnown_23 (by decide) ?_
      refine z_cV (As := [.int (10 : Int32)]) (rest := []) B hW (f_X7_isNumberBelow l h0) sc_X7_isNumberBelow sv_X7_61 h0 ⟨Nat.le_of_ble_eq_true rfl, Nat.le_of_ble_eq_true rfl⟩ ⟨Nat.zero_le _, Nat.zero_le _⟩ rfl hl.1 rfl (Nat.le_of_ble_eq_true rfl) dX7_tellKnown_25 (fun H locs hW => ?_)
      refine lv_if_eq (tgt := 56) hx hb dX7_tellKnown_28 (by decide) (fun c10 => ?_) (fun c10 => ?_)
      · have hf := z_it c10 hf
        refine lv_iconst (v := 1) hx hb dX7_tellKnown_56 (by decide) ?_
        obtain ⟨e1, e2⟩ := z_s2 hf
        subst e1
        subst e2
        exact z_rz B hW (Or.inr rfl) dX7_tellKnown_57
      · have hf := z_if c10 hf
        refine lv_aload_n hx hb dX7_tellKnown_31 rfl (lv_at hl 1 rfl) ?_
        refine lv_dup hx hb dX7_tellKnown_32 rfl ?_
        refine z_getN_8_1 B hW h1 q157 dX7_tellKnown_33 ?_
        refine lv_iconst (v := 1) hx hb dX7_tellKnown_36 (by decide) ?_
        refine lv_aload_n hx hb dX7_tellKnown_37 rfl (lv_at hl 0 rfl) ?_
        refine z_get_7_5 B hW h0 q221 dX7_tellKnown_38 ?_
        refine lv_ishl hx hb dX7_tellKnown_41 ?_
        refine lv_ior hx hb dX7_tellKnown_42 ?_
        refine z_putN_8_1 B hW h1 q157 dX7_tellKnown_43 (fun H locs hW => ?_)
        obtain ⟨M11, e12, hf⟩ := z_le hf
        have hW := z_wde e12 hW
        refine lv_aload_n hx hb dX7_tellKnown_46 rfl (lv_at hl 0 rfl) ?_
        obtain ⟨M14, e15, hf⟩ := z_bd hf
        refine z_cV (As := []) (rest := []) B hW (f_X7_advance l e15 h0) sc_X7_advance sv_X7_22 h0 ⟨Nat.le_of_ble_eq_true rfl, Nat.le_of_ble_eq_true rfl⟩ ⟨Nat.zero_le _, Nat.zero_le _⟩ rfl hl.1 rfl (Nat.le_of_ble_eq_true rfl) dX7_tellKnown_47 (fun H locs hW => ?_)
        refine lv_iinc (v := l2 + (1 : Int32)) (lv' := [(2, .int (l2 + (1 : Int32))), (0, .ref l0), (1, .ref l1)]) hx hb dX7_tellKnown_50 hl (k := 2) rfl rfl (by decide) rfl (fun ls hl => ?_)
        refine lv_goto (tgt := 17) hx hb dX7_tellKnown_53 (by decide) ?_
        exact ih M14 l0 l1 (l2 + (1 : Int32)) _ _ hf h0 h1 _ _ _ hW (lv_sub hl [1, 2, 0] rfl)
set_option maxHeartbeats 4000000 in
set_option maxRecDepth 100000 in
theorem f_X7_tellKnown (l : Launch) {Γ : Zg} {M : Zm} {l0 : Nat} {l1 : Nat} {r : Int32} {M' : Zm} (hf : X7_tellKnown Γ M l0 l1 = some (r, M')) (h0 : z_Is Γ 7 l0) (h1 : z_Is Γ 8 l1) : z_Fn l Γ yX7_tellKnown cX7_tellKnown 3 (some .boolean) 3 80 [.ref l0, .ref l1] M (some (.int r)) M' := by
  refine z_Fn.of (by decide) (Nat.le_of_ble_eq_true rfl) ?_
  intro p e s m below meth c ls B hW hl
  have B : z_Bd Γ p s m _ meth c cX7_tellKnown 3 (some .boolean) RX7 := B
  have hl : lv_has ls 3 [(0, .ref l0), (1, .ref l1)] := hl
  rw [X7_tellKnown] at hf
  have hx := B.1
  have hb := B.2.1
  have hml := B.2.2.1
  have ho := B.2.2.2.1
  have hw := B.2.2.2.2.1
  have hE := B.2.2.2.2.2.1.2.2
  have hg := B.2.2.2.2.2.2.1
  refine lv_aload_n hx hb dX7_tellKnown_0 rfl (lv_at hl 0 rfl) ?_
  obtain ⟨M2, e3, hf⟩ := z_bd hf
  refine z_cV (As := []) (rest := []) B hW (f_X7_advance l e3 h0) sc_X7_advance sv_X7_22 h0 ⟨Nat.le_of_ble_eq_true rfl, Nat.le_of_ble_eq_true rfl⟩ ⟨Nat.zero_le _, Nat.zero_le _⟩ rfl hl.1 rfl (Nat.le_of_ble_eq_true rfl) dX7_tellKnown_1 (fun H locs hW => ?_)
  refine lv_aload_n hx hb dX7_tellKnown_4 rfl (lv_at hl 0 rfl) ?_
  refine lv_bipush (v := 10) hx hb dX7_tellKnown_5 (by decide) ?_
  refine z_cV (As := [.int (10 : Int32)]) (rest := []) B hW (f_X7_isNumberBelow l h0) sc_X7_isNumberBelow sv_X7_61 h0 ⟨Nat.le_of_ble_eq_true rfl, Nat.le_of_ble_eq_true rfl⟩ ⟨Nat.zero_le _, Nat.zero_le _⟩ rfl hl.1 rfl (Nat.le_of_ble_eq_true rfl) dX7_tellKnown_7 (fun H locs hW => ?_)
  refine lv_if_ne (tgt := 15) hx hb dX7_tellKnown_10 (by decide) (fun c6 => ?_) (fun c6 => ?_)
  · have hf := z_if c6 hf
    refine lv_iconst (v := 0) hx hb dX7_tellKnown_15 (by decide) ?_
    refine lv_istore_n (lv' := [(2, .int (0 : Int32)), (0, .ref l0), (1, .ref l1)]) hx hb dX7_tellKnown_16 rfl hl (by decide) rfl (fun ls hl => ?_)
    exact w_X7_tellKnown_P17 B 1000 M2 l0 l1 (0 : Int32) _ _ hf h0 h1 _ _ _ hW (lv_sub hl [1, 2, 0] rfl)
  · have hf := z_it c6 hf
    refine lv_iconst (v := 0) hx hb dX7_tellKnown_13 (by decide) ?_
    obtain ⟨e1, e2⟩ := z_s2 hf
    subst e1
    subst e2
    exact z_rz B hW (Or.inl rfl) dX7_tellKnown_14
set_option maxHeartbeats 4000000 in
set_option maxRecDepth 100000 in
theorem f_X7_tellSeat (l : Launch) {Γ : Zg} {M : Zm} {l0 : Nat} {l1 : Nat} {l2 : Nat} {r : Int32} {M' : Zm} (hf : X7_tellSeat Γ M l0 l1 l2 = some (r, M')) (h0 : z_Is Γ 7 l0) (h1 : z_Is Γ 3 l1) (h2 : z_Is Γ 8 l2) : z_Fn l Γ yX7_tellSeat cX7_tellSeat 3 (some .boolean) 3 80 [.ref l0, .ref l1, .ref l2] M (some (.int r)) M' := by
  refine z_Fn.of (by decide) (Nat.le_of_ble_eq_true rfl) ?_
  intro p e s m below meth c ls B hW hl
  have B : z_Bd Γ p s m _ meth c cX7_tellSeat 3 (some .boolean) RX7 := B
  have hl : lv_has ls 3 [(0, .ref l0), (1, .ref l1), (2, .ref l2)] := hl
  rw [X7_tellSeat] at hf
  have hx := B.1
  have hb := B.2.1
  have hml := B.2.2.1
  have ho := B.2.2.2.1
  have hw := B.2.2.2.2.1
  have hE := B.2.2.2.2.2.1.2.2
  have hg := B.2.2.2.2.2.2.1
  refine lv_aload_n hx hb dX7_tellSeat_0 rfl (lv_at hl 0 rfl) ?_
  obtain ⟨M2, e3, hf⟩ := z_bd hf
  refine z_cV (As := []) (rest := []) B hW (f_X7_advance l e3 h0) sc_X7_advance sv_X7_22 h0 ⟨Nat.le_of_ble_eq_true rfl, Nat.le_of_ble_eq_true rfl⟩ ⟨Nat.zero_le _, Nat.zero_le _⟩ rfl hl.1 rfl (Nat.le_of_ble_eq_true rfl) dX7_tellSeat_1 (fun H locs hW => ?_)
  refine lv_aload_n hx hb dX7_tellSeat_4 rfl (lv_at hl 0 rfl) ?_
  refine lv_iconst (v := 2) hx hb dX7_tellSeat_5 (by decide) ?_
  refine z_cV (As := [.int (2 : Int32)]) (rest := []) B hW (f_X7_isNumberBelow l h0) sc_X7_isNumberBelow sv_X7_61 h0 ⟨Nat.le_of_ble_eq_true rfl, Nat.le_of_ble_eq_true rfl⟩ ⟨Nat.zero_le _, Nat.zero_le _⟩ rfl hl.1 rfl (Nat.le_of_ble_eq_true rfl) dX7_tellSeat_6 (fun H locs hW => ?_)
  refine lv_if_eq (tgt := 24) hx hb dX7_tellSeat_9 (by decide) (fun c6 => ?_) (fun c6 => ?_)
  · have hf := z_it c6 hf
    refine lv_iconst (v := 0) hx hb dX7_tellSeat_24 (by decide) ?_
    obtain ⟨e1, e2⟩ := z_s2 hf
    subst e1
    subst e2
    exact z_rz B hW (Or.inl rfl) dX7_tellSeat_25
  · have hf := z_if c6 hf
    refine lv_aload_n hx hb dX7_tellSeat_12 rfl (lv_at hl 1 rfl) ?_
    refine lv_aload_n hx hb dX7_tellSeat_13 rfl (lv_at hl 0 rfl) ?_
    refine z_get_7_5 B hW h0 q221 dX7_tellSeat_14 ?_
    obtain ⟨r7, e8, hf⟩ := z_bd hf
    refine z_cV (As := [.int (M2.1 l0 5)]) (rest := []) B hW (f_X3_holder l e8 h1) sc_X3_holder sv_X7_96 h1 ⟨Nat.le_of_ble_eq_true rfl, Nat.le_of_ble_eq_true rfl⟩ ⟨Nat.zero_le _, Nat.zero_le _⟩ rfl hl.1 rfl (Nat.le_of_ble_eq_true rfl) dX7_tellSeat_17 (fun H locs hW => ?_)
    refine lv_iconst (v := -1) hx hb dX7_tellSeat_20 (by decide) ?_
    refine lv_icmp_eq (tgt := 26) hx hb dX7_tellSeat_21 (by decide) (fun c9 => ?_) (fun c9 => ?_)
    · have hf := z_it c9 hf
      refine lv_aload_n hx hb dX7_tellSeat_26 rfl (lv_at hl 2 rfl) ?_
      refine lv_aload_n hx hb dX7_tellSeat_27 rfl (lv_at hl 0 rfl) ?_
      refine z_get_7_5 B hW h0 q221 dX7_tellSeat_28 ?_
      obtain ⟨M11, e12, hf⟩ := z_le hf
      refine z_cV (As := [.int (M2.1 l0 5)]) (rest := []) B hW (f_X8_settle l e12 h2) sc_X8_settle sv_X7_99 h2 ⟨Nat.le_of_ble_eq_true rfl, Nat.le_of_ble_eq_true rfl⟩ ⟨Nat.zero_le _, Nat.zero_le _⟩ rfl hl.1 rfl (Nat.le_of_ble_eq_true rfl) dX7_tellSeat_31 (fun H locs hW => ?_)
      refine lv_aload_n hx hb dX7_tellSeat_34 rfl (lv_at hl 0 rfl) ?_
      obtain ⟨M14, e15, hf⟩ := z_bd hf
      refine z_cV (As := []) (rest := []) B hW (f_X7_advance l e15 h0) sc_X7_advance sv_X7_22 h0 ⟨Nat.le_of_ble_eq_true rfl, Nat.le_of_ble_eq_true rfl⟩ ⟨Nat.zero_le _, Nat.zero_le _⟩ rfl hl.1 rfl (Nat.le_of_ble_eq_true rfl) dX7_tellSeat_35 (fun H locs hW => ?_)
      refine lv_iconst (v := 1) hx hb dX7_tellSeat_38 (by decide) ?_
      obtain ⟨e1, e2⟩ := z_s2 hf
      subst e1
      subst e2
      exact z_rz B hW (Or.inr rfl) dX7_tellSeat_39
    · have hf := z_if c9 hf
      refine lv_iconst (v := 0) hx hb dX7_tellSeat_24 (by decide) ?_
      obtain ⟨e1, e2⟩ := z_s2 hf
      subst e1
      subst e2
      exact z_rz B hW (Or.inl rfl) dX7_tellSeat_25
set_option maxHeartbeats 4000000 in
set_option maxRecDepth 100000 in
theorem w_X7_tellVisitor_P33 (B : z_Bd Γ p s m args meth c cX7_tellVisitor 4 (some .boolean) RX7) : ∀ (M : Zm) (l0 : Nat) (l1 : Nat) (l3 : Nat) (r : Int32) (M' : Zm), X7_tellVisitor_P33 Γ M l0 l1 l3 = some (r, M') → z_Is Γ 7 l0 → z_Is Γ 3 l1 → z_Is Γ 8 l3 → ∀ (H : Heap) (locs : List Loc) (ls : Array Slot), z_Wd Γ M s.heap H locs → lv_has ls 4 [(0, .ref l0), (1, .ref l1), (3, .ref l3)] → W p l e (z_rm 6 153) s m args below meth c H locs 0 0 (z_Q Γ below args s (some (.int r)) M') (F0 m 33 ls []) := by
  have hx := B.1
  have hb := B.2.1
  have hml := B.2.2.1
  have ho := B.2.2.2.1
  have hw := B.2.2.2.2.1
  have hE := B.2.2.2.2.2.1.2.2
  have hg := B.2.2.2.2.2.2.1
  intro M l0 l1 l3 r M' hf h0 h1 h3 H locs ls hW hl
  rw [X7_tellVisitor_P33] at hf
  refine lv_aload_n hx hb dX7_tellVisitor_33 rfl (lv_at hl 0 rfl) ?_
  refine va_ldcS hx hb ho hE.2.1.2.2.2.2.2.2.2.1 dX7_tellVisitor_34 ?_
  obtain ⟨r16, e17, hf⟩ := z_bd hf
  refine z_cV (As := [.ref (z_sK Γ 7)]) (rest := []) B hW (f_X7_isWord l e17 h0 (by decide)) sc_X7_isWord sv_X7_39 h0 ⟨Nat.le_of_ble_eq_true rfl, Nat.le_of_ble_eq_true rfl⟩ ⟨Nat.zero_le _, Nat.zero_le _⟩ rfl hl.1 rfl (Nat.le_of_ble_eq_true rfl) dX7_tellVisitor_36 (fun H locs hW => ?_)
  refine lv_if_eq (tgt := 51) hx hb dX7_tellVisitor_39 (by decide) (fun c18 => ?_) (fun c18 => ?_)
  · have hf := z_it c18 hf
    refine lv_iconst (v := 1) hx hb dX7_tellVisitor_51 (by decide) ?_
    refine lv_goto (tgt := 56) hx hb dX7_tellVisitor_52 (by decide) ?_
    obtain ⟨e1, e2⟩ := z_s2 hf
    subst e1
    subst e2
    exact z_rz B hW (Or.inr rfl) dX7_tellVisitor_56
  · have hf := z_if c18 hf
    refine lv_aload_n hx hb dX7_tellVisitor_42 rfl (lv_at hl 0 rfl) ?_
    refine lv_aload_n hx hb dX7_tellVisitor_43 rfl (lv_at hl 1 rfl) ?_
    refine lv_aload_n hx hb dX7_tellVisitor_44 rfl (lv_at hl 2 rfl) ?_
    obtain ⟨r19, M20, e21, hf⟩ := z_bpe hf
    refine z_cV (As := [.ref l1, .ref l3]) (rest := []) B hW (f_X7_tellSeat l e21 h0 h1 h3) sc_X7_tellSeat sv_X7_87 h0 ⟨Nat.le_of_ble_eq_true rfl, Nat.le_of_ble_eq_true rfl⟩ ⟨Nat.zero_le _, Nat.zero_le _⟩ rfl hl.1 rfl (Nat.le_of_ble_eq_true rfl) dX7_tellVisitor_45 (fun H locs hW => ?_)
    refine lv_if_eq (tgt := 55) hx hb dX7_tellVisitor_48 (by decide) (fun c22 => ?_) (fun c22 => ?_)
    · have hf := z_it c22 hf
      refine lv_iconst (v := 0) hx hb dX7_tellVisitor_55 (by decide) ?_
      obtain ⟨e1, e2⟩ := z_s2 hf
      subst e1
      subst e2
      exact z_rz B hW (Or.inl rfl) dX7_tellVisitor_56
    · have hf := z_if c22 hf
      refine lv_iconst (v := 1) hx hb dX7_tellVisitor_51 (by decide) ?_
      refine lv_goto (tgt := 56) hx hb dX7_tellVisitor_52 (by decide) ?_
      obtain ⟨e1, e2⟩ := z_s2 hf
      subst e1
      subst e2
      exact z_rz B hW (Or.inr rfl) dX7_tellVisitor_56
set_option maxHeartbeats 4000000 in
set_option maxRecDepth 100000 in
theorem f_X7_tellVisitor (l : Launch) {Γ : Zg} {M : Zm} {l0 : Nat} {l1 : Nat} {l2 : Int32} {r : Int32} {M' : Zm} (hf : X7_tellVisitor Γ M l0 l1 l2 = some (r, M')) (h0 : z_Is Γ 7 l0) (h1 : z_Is Γ 3 l1) : z_Fn l Γ yX7_tellVisitor cX7_tellVisitor 4 (some .boolean) 6 153 [.ref l0, .ref l1, .int l2] M (some (.int r)) M' := by
  refine z_Fn.of (by decide) (Nat.le_of_ble_eq_true rfl) ?_
  intro p e s m below meth c ls B hW hl
  have B : z_Bd Γ p s m _ meth c cX7_tellVisitor 4 (some .boolean) RX7 := B
  have hl : lv_has ls 4 [(0, .ref l0), (1, .ref l1), (2, .int l2)] := hl
  rw [X7_tellVisitor] at hf
  have hx := B.1
  have hb := B.2.1
  have hml := B.2.2.1
  have ho := B.2.2.2.1
  have hw := B.2.2.2.2.1
  have hE := B.2.2.2.2.2.1.2.2
  have hg := B.2.2.2.2.2.2.1
  refine lv_aload_n hx hb dX7_tellVisitor_0 rfl (lv_at hl 1 rfl) ?_
  refine lv_aload_n hx hb dX7_tellVisitor_1 rfl (lv_at hl 1 rfl) ?_
  refine lv_iload_n hx hb dX7_tellVisitor_2 rfl (lv_at hl 2 rfl) ?_
  obtain ⟨r1, M2, e3, hf⟩ := z_bpe hf
  refine z_cV (As := [.int l2]) (rest := [.ref l1]) B hW (f_X3_welcome l e3 h1) sc_X3_welcome sv_X7_71 h1 ⟨Nat.le_of_ble_eq_true rfl, Nat.le_of_ble_eq_true rfl⟩ ⟨Nat.zero_le _, Nat.zero_le _⟩ rfl hl.1 rfl (Nat.le_of_ble_eq_true rfl) dX7_tellVisitor_3 (fun H locs hW => ?_)
  obtain ⟨r4, e5, hf⟩ := z_bd hf
  refine z_cV (As := [.int r1]) (rest := []) B hW (f_X3_visitor l e5 h1) sc_X3_visitor sv_X7_75 h1 ⟨Nat.le_of_ble_eq_true rfl, Nat.le_of_ble_eq_true rfl⟩ ⟨Nat.zero_le _, Nat.zero_le _⟩ rfl hl.1 rfl (Nat.le_of_ble_eq_true rfl) dX7_tellVisitor_6 (fun H locs hW => ?_)
  refine lv_astore_n (lv' := [(3, .ref r4), (0, .ref l0), (1, .ref l1), (2, .int l2)]) hx hb dX7_tellVisitor_9 rfl hl (by decide) rfl (fun ls hl => ?_)
  refine lv_aload_n hx hb dX7_tellVisitor_10 rfl (lv_at hl 1 rfl) ?_
  obtain ⟨M7, e8, hf⟩ := z_bd hf
  refine z_cV (As := []) (rest := []) B hW (f_X7_advance l e8 h0) sc_X7_advance sv_X7_22 h0 ⟨Nat.le_of_ble_eq_true rfl, Nat.le_of_ble_eq_true rfl⟩ ⟨Nat.zero_le _, Nat.zero_le _⟩ rfl hl.1 rfl (Nat.le_of_ble_eq_true rfl) dX7_tellVisitor_11 (fun H locs hW => ?_)
  refine lv_aload_n hx hb dX7_tellVisitor_14 rfl (lv_at hl 1 rfl) ?_
  refine va_ldcS hx hb ho hE.2.1.2.2.2.2.2.2.1 dX7_tellVisitor_15 ?_
  obtain ⟨r9, e10, hf⟩ := z_bd hf
  refine z_cV (As := [.ref (z_sK Γ 6)]) (rest := []) B hW (f_X7_isWord l e10 h0 (by decide)) sc_X7_isWord sv_X7_39 h0 ⟨Nat.le_of_ble_eq_true rfl, Nat.le_of_ble_eq_true rfl⟩ ⟨Nat.zero_le _, Nat.zero_le _⟩ rfl hl.1 rfl (Nat.le_of_ble_eq_true rfl) dX7_tellVisitor_17 (fun H locs hW => ?_)
  refine lv_if_eq (tgt := 33) hx hb dX7_tellVisitor_20 (by decide) (fun c11 => ?_) (fun c11 => ?_)
  · have hf := z_it c11 hf
    exact w_X7_tellVisitor_P33 B M7 l0 l1 r4 _ _ hf h0 h1 (h_X3_visitor hg e5 h1) _ _ _ hW (lv_sub hl [1, 2, 0] rfl)
  · have hf := z_if c11 hf
    refine lv_aload_n hx hb dX7_tellVisitor_23 rfl (lv_at hl 1 rfl) ?_
    refine lv_aload_n hx hb dX7_tellVisitor_24 rfl (lv_at hl 0 rfl) ?_
    obtain ⟨r12, M13, e14, hf⟩ := z_bpe hf
    refine z_cV (As := [.ref r4]) (rest := []) B hW (f_X7_tellKnown l e14 h0 (h_X3_visitor hg e5 h1)) sc_X7_tellKnown sv_X7_81 h0 ⟨Nat.le_of_ble_eq_true rfl, Nat.le_of_ble_eq_true rfl⟩ ⟨Nat.zero_le _, Nat.zero_le _⟩ rfl hl.1 rfl (Nat.le_of_ble_eq_true rfl) dX7_tellVisitor_25 (fun H locs hW => ?_)
    refine lv_if_ne (tgt := 33) hx hb dX7_tellVisitor_28 (by decide) (fun c15 => ?_) (fun c15 => ?_)
    · have hf := z_if c15 hf
      exact w_X7_tellVisitor_P33 B M13 l0 l1 r4 _ _ hf h0 h1 (h_X3_visitor hg e5 h1) _ _ _ hW (lv_sub hl [1, 2, 0] rfl)
    · have hf := z_it c15 hf
      refine lv_iconst (v := 0) hx hb dX7_tellVisitor_31 (by decide) ?_
      obtain ⟨e1, e2⟩ := z_s2 hf
      subst e1
      subst e2
      exact z_rz B hW (Or.inl rfl) dX7_tellVisitor_32
set_option maxHeartbeats 4000000 in
set_option maxRecDepth 100000 in
theorem f_X7_tellSecret (l : Launch) {Γ : Zg} {M : Zm} {l0 : Nat} {l1 : Nat} {l2 : Int32} {r : Int32} {M' : Zm} (hf : X7_tellSecret Γ M l0 l1 l2 = some (r, M')) (h0 : z_Is Γ 7 l0) (h1 : z_Is Γ 3 l1) : z_Fn l Γ yX7_tellSecret cX7_tellSecret 4 (some .boolean) 3 80 [.ref l0, .ref l1, .int l2] M (some (.int r)) M' := by
  refine z_Fn.of (by decide) (Nat.le_of_ble_eq_true rfl) ?_
  intro p e s m below meth c ls B hW hl
  have B : z_Bd Γ p s m _ meth c cX7_tellSecret 4 (some .boolean) RX7 := B
  have hl : lv_has ls 4 [(0, .ref l0), (1, .ref l1), (2, .int l2)] := hl
  rw [X7_tellSecret] at hf
  have hx := B.1
  have hb := B.2.1
  have hml := B.2.2.1
  have ho := B.2.2.2.1
  have hw := B.2.2.2.2.1
  have hE := B.2.2.2.2.2.1.2.2
  have hg := B.2.2.2.2.2.2.1
  refine lv_aload_n hx hb dX7_tellSecret_0 rfl (lv_at hl 0 rfl) ?_
  obtain ⟨M2, e3, hf⟩ := z_bd hf
  refine z_cV (As := []) (rest := []) B hW (f_X7_advance l e3 h0) sc_X7_advance sv_X7_22 h0 ⟨Nat.le_of_ble_eq_true rfl, Nat.le_of_ble_eq_true rfl⟩ ⟨Nat.zero_le _, Nat.zero_le _⟩ rfl hl.1 rfl (Nat.le_of_ble_eq_true rfl) dX7_tellSecret_1 (fun H locs hW => ?_)
  refine lv_aload_n hx hb dX7_tellSecret_4 rfl (lv_at hl 0 rfl) ?_
  refine lv_bipush (v := 10) hx hb dX7_tellSecret_5 (by decide) ?_
  refine z_cV (As := [.int (10 : Int32)]) (rest := []) B hW (f_X7_isNumberBelow l h0) sc_X7_isNumberBelow sv_X7_61 h0 ⟨Nat.le_of_ble_eq_true rfl, Nat.le_of_ble_eq_true rfl⟩ ⟨Nat.zero_le _, Nat.zero_le _⟩ rfl hl.1 rfl (Nat.le_of_ble_eq_true rfl) dX7_tellSecret_7 (fun H locs hW => ?_)
  refine lv_if_ne (tgt := 15) hx hb dX7_tellSecret_10 (by decide) (fun c6 => ?_) (fun c6 => ?_)
  · have hf := z_if c6 hf
    refine lv_iconst (v := 1) hx hb dX7_tellSecret_15 (by decide) ?_
    refine lv_aload_n hx hb dX7_tellSecret_16 rfl (lv_at hl 0 rfl) ?_
    refine z_get_7_5 B hW h0 q221 dX7_tellSecret_17 ?_
    refine lv_ishl hx hb dX7_tellSecret_20 ?_
    refine lv_istore_n (lv' := [(3, .int ((1 : Int32) <<< ((M2.1 l0 5) &&& 31))), (0, .ref l0), (1, .ref l1), (2, .int l2)]) hx hb dX7_tellSecret_21 rfl hl (by decide) rfl (fun ls hl => ?_)
    refine lv_aload_n hx hb dX7_tellSecret_22 rfl (lv_at hl 2 rfl) ?_
    refine lv_iload_n hx hb dX7_tellSecret_23 rfl (lv_at hl 3 rfl) ?_
    refine lv_if_eq (tgt := 36) hx hb dX7_tellSecret_24 (by decide) (fun c7 => ?_) (fun c7 => ?_)
    · have hf := z_it c7 hf
      refine lv_aload_n hx hb dX7_tellSecret_36 rfl (lv_at hl 2 rfl) ?_
      refine z_getN_3_3 B hW h1 q191 dX7_tellSecret_37 ?_
      refine lv_iload_n hx hb dX7_tellSecret_40 rfl (lv_at hl 0 rfl) ?_
      refine lv_iconst (v := -1) hx hb dX7_tellSecret_41 (by decide) ?_
      refine lv_ixor hx hb dX7_tellSecret_42 ?_
      refine lv_iand hx hb dX7_tellSecret_43 ?_
      refine z_putN_3_3 B hW h1 q191 dX7_tellSecret_44 (fun H locs hW => ?_)
      obtain ⟨M8, e9, hf⟩ := z_le hf
      have hW := z_wde e9 hW
      refine lv_aload_n hx hb dX7_tellSecret_47 rfl (lv_at hl 1 rfl) ?_
      obtain ⟨M11, e12, hf⟩ := z_bd hf
      refine z_cV (As := []) (rest := []) B hW (f_X7_advance l e12 h0) sc_X7_advance sv_X7_22 h0 ⟨Nat.le_of_ble_eq_true rfl, Nat.le_of_ble_eq_true rfl⟩ ⟨Nat.zero_le _, Nat.zero_le _⟩ rfl hl.1 rfl (Nat.le_of_ble_eq_true rfl) dX7_tellSecret_48 (fun H locs hW => ?_)
      refine lv_iconst (v := 1) hx hb dX7_tellSecret_51 (by decide) ?_
      obtain ⟨e1, e2⟩ := z_s2 hf
      subst e1
      subst e2
      exact z_rz B hW (Or.inr rfl) dX7_tellSecret_52
    · have hf := z_if c7 hf
      refine lv_aload_n hx hb dX7_tellSecret_27 rfl (lv_at hl 2 rfl) ?_
      refine z_getN_3_3 B hW h1 q191 dX7_tellSecret_28 ?_
      refine lv_iload_n hx hb dX7_tellSecret_31 rfl (lv_at hl 0 rfl) ?_
      refine lv_ior hx hb dX7_tellSecret_32 ?_
      refine lv_goto (tgt := 44) hx hb dX7_tellSecret_33 (by decide) ?_
      refine z_putN_3_3 B hW h1 q191 dX7_tellSecret_44 (fun H locs hW => ?_)
      obtain ⟨M13, e14, hf⟩ := z_le hf
      have hW := z_wde e14 hW
      refine lv_aload_n hx hb dX7_tellSecret_47 rfl (lv_at hl 1 rfl) ?_
      obtain ⟨M16, e17, hf⟩ := z_bd hf
      refine z_cV (As := []) (rest := []) B hW (f_X7_advance l e17 h0) sc_X7_advance sv_X7_22 h0 ⟨Nat.le_of_ble_eq_true rfl, Nat.le_of_ble_eq_true rfl⟩ ⟨Nat.zero_le _, Nat.zero_le _⟩ rfl hl.1 rfl (Nat.le_of_ble_eq_true rfl) dX7_tellSecret_48 (fun H locs hW => ?_)
      refine lv_iconst (v := 1) hx hb dX7_tellSecret_51 (by decide) ?_
      obtain ⟨e1, e2⟩ := z_s2 hf
      subst e1
      subst e2
      exact z_rz B hW (Or.inr rfl) dX7_tellSecret_52
  · have hf := z_it c6 hf
    refine lv_iconst (v := 0) hx hb dX7_tellSecret_13 (by decide) ?_
    obtain ⟨e1, e2⟩ := z_s2 hf
    subst e1
    subst e2
    exact z_rz B hW (Or.inl rfl) dX7_tellSecret_14
set_option maxHeartbeats 4000000 in
set_option maxRecDepth 100000 in
theorem w_X7_tellItem_P2 (B : z_Bd Γ p s m args meth c cX7_tellItem 3 (some .boolean) RX7) : ∀ (n : Nat) (M : Zm) (l0 : Nat) (l1 : Nat) (l2 : Int32) (r : Int32) (M' : Zm), X7_tellItem_P2 Γ n M l0 l1 l2 = some (r, M') → z_Is Γ 7 l0 → z_Is Γ 3 l1 → ∀ (H : Heap) (locs : List Loc) (ls : Array Slot), z_Wd Γ M s.heap H locs → lv_has ls 3 [(0, .ref l0), (1, .ref l1), (2, .int l2)] → W p l e (z_rm 7 176) s m args below meth c H locs 0 0 (z_Q Γ below args s (some (.int r)) M') (F0 m 2 ls []) := by
  have hx := B.1
  have hb := B.2.1
  have hml := B.2.2.1
  have ho := B.2.2.2.1
  have hw := B.2.2.2.2.1
  have hE := B.2.2.2.2.2.1.2.2
  have hg := B.2.2.2.2.2.2.1
  intro n
  induction n with
  | zero =>
    intro M l0 l1 l2 r M' hf h0 h1 H locs ls hW hl
    cases hf
  | succ n ih =>
    intro M l0 l1 l2 r M' hf h0 h1 H locs ls hW hl
    rw [X7_tellItem_P2] at hf
    refine lv_iload_n hx hb dX7_tellItem_2 rfl (lv_at hl 2 rfl) ?_
    refine lv_bipush (v := 6) hx hb dX7_tellItem_3 (by decide) ?_
    refine lv_icmp_ge (tgt := 47) hx hb dX7_tellItem_5 (by decide) (fun c1 => ?_) (fun c1 => ?_)
    · have hf := z_it c1 hf
      refine lv_aload_n hx hb dX7_tellItem_47 rfl (lv_at hl 0 rfl) ?_
      refine va_ldcS hx hb ho hE.2.1.2.2.2.2.2.2.2.2.1 dX7_tellItem_48 ?_
      obtain ⟨r2, e3, hf⟩ := z_bd hf
      refine z_cV (As := [.ref (z_sK Γ 8)]) (rest := []) B hW (f_X7_isWord l e3 h0 (by decide)) sc_X7_isWord sv_X7_39 h0 ⟨Nat.le_of_ble_eq_true rfl, Nat.le_of_ble_eq_true rfl⟩ ⟨Nat.zero_le _, Nat.zero_le _⟩ rfl hl.1 rfl (Nat.le_of_ble_eq_true rfl) dX7_tellItem_50 (fun H locs hW => ?_)
      refine lv_if_eq (tgt := 63) hx hb dX7_tellItem_53 (by decide) (fun c4 => ?_) (fun c4 => ?_)
      · have hf := z_it c4 hf
        refine lv_aload_n hx hb dX7_tellItem_63 rfl (lv_at hl 0 rfl) ?_
        refine va_ldcS hx hb ho hE.2.1.2.2.2.2.2.2.2.2.2 dX7_tellItem_64 ?_
        obtain ⟨r5, e6, hf⟩ := z_bd hf
        refine z_cV (As := [.ref (z_sK Γ 9)]) (rest := []) B hW (f_X7_isWord l e6 h0 (by decide)) sc_X7_isWord sv_X7_39 h0 ⟨Nat.le_of_ble_eq_true rfl, Nat.le_of_ble_eq_true rfl⟩ ⟨Nat.zero_le _, Nat.zero_le _⟩ rfl hl.1 rfl (Nat.le_of_ble_eq_true rfl) dX7_tellItem_66 (fun H locs hW => ?_)
        refine lv_if_eq (tgt := 85) hx hb dX7_tellItem_69 (by decide) (fun c7 => ?_) (fun c7 => ?_)
        · have hf := z_it c7 hf
          refine lv_iconst (v := 0) hx hb dX7_tellItem_85 (by decide) ?_
          obtain ⟨e1, e2⟩ := z_s2 hf
          subst e1
          subst e2
          exact z_rz B hW (Or.inl rfl) dX7_tellItem_86
        · have hf := z_if c7 hf
          refine lv_aload_n hx hb dX7_tellItem_72 rfl (lv_at hl 0 rfl) ?_
          refine lv_aload_n hx hb dX7_tellItem_73 rfl (lv_at hl 1 rfl) ?_
          refine lv_iconst (v := 0) hx hb dX7_tellItem_74 (by decide) ?_
          obtain ⟨r8, M9, e10, hf⟩ := z_bpe hf
          refine z_cV (As := [.ref l1, .int (0 : Int32)]) (rest := []) B hW (f_X7_tellSecret l e10 h0 h1) sc_X7_tellSecret sv_X7_55 h0 ⟨Nat.le_of_ble_eq_true rfl, Nat.le_of_ble_eq_true rfl⟩ ⟨Nat.zero_le _, Nat.zero_le _⟩ rfl hl.1 rfl (Nat.le_of_ble_eq_true rfl) dX7_tellItem_75 (fun H locs hW => ?_)
          refine lv_if_eq (tgt := 85) hx hb dX7_tellItem_78 (by decide) (fun c11 => ?_) (fun c11 => ?_)
          · have hf := z_it c11 hf
            refine lv_iconst (v := 0) hx hb dX7_tellItem_85 (by decide) ?_
            obtain ⟨e1, e2⟩ := z_s2 hf
            subst e1
            subst e2
            exact z_rz B hW (Or.inl rfl) dX7_tellItem_86
          · have hf := z_if c11 hf
            refine lv_iconst (v := 1) hx hb dX7_tellItem_81 (by decide) ?_
            refine lv_goto (tgt := 86) hx hb dX7_tellItem_82 (by decide) ?_
            obtain ⟨e1, e2⟩ := z_s2 hf
            subst e1
            subst e2
            exact z_rz B hW (Or.inr rfl) dX7_tellItem_86
      · have hf := z_if c4 hf
        refine lv_aload_n hx hb dX7_tellItem_56 rfl (lv_at hl 0 rfl) ?_
        refine lv_aload_n hx hb dX7_tellItem_57 rfl (lv_at hl 1 rfl) ?_
        refine lv_iconst (v := 1) hx hb dX7_tellItem_58 (by decide) ?_
        obtain ⟨r12, M13, e14, hf⟩ := z_bpe hf
        refine z_cV (As := [.ref l1, .int (1 : Int32)]) (rest := []) B hW (f_X7_tellSecret l e14 h0 h1) sc_X7_tellSecret sv_X7_55 h0 ⟨Nat.le_of_ble_eq_true rfl, Nat.le_of_ble_eq_true rfl⟩ ⟨Nat.zero_le _, Nat.zero_le _⟩ rfl hl.1 rfl (Nat.le_of_ble_eq_true rfl) dX7_tellItem_59 (fun H locs hW => ?_)
        obtain ⟨g15, hf⟩ := z_gp hf
        obtain ⟨e1, e2⟩ := z_s2 hf
        subst e1
        subst e2
        exact z_rz B hW g15 dX7_tellItem_62
    · have hf := z_if c1 hf
      refine lv_aload_n hx hb dX7_tellItem_8 rfl (lv_at hl 0 rfl) ?_
      refine lv_iload_n hx hb dX7_tellItem_9 rfl (lv_at hl 2 rfl) ?_
      refine z_cS (As := [.int l2]) (rest := [.ref l0]) B hW (f_X7_nameOf l) sc_X7_nameOf ⟨q677, q678⟩ ⟨Nat.le_of_ble_eq_true rfl, Nat.le_of_ble_eq_true rfl⟩ ⟨Nat.zero_le _, Nat.zero_le _⟩ rfl hl.1 rfl (Nat.le_of_ble_eq_true rfl) dX7_tellItem_10 (fun H locs hW => ?_)
      obtain ⟨r18, e19, hf⟩ := z_bd hf
      refine z_cV (As := [.ref (z_sK Γ (X7_nameOf l2))]) (rest := []) B hW (f_X7_isWord l e19 h0 (h_X7_nameOf l2)) sc_X7_isWord sv_X7_39 h0 ⟨Nat.le_of_ble_eq_true rfl, Nat.le_of_ble_eq_true rfl⟩ ⟨Nat.zero_le _, Nat.zero_le _⟩ rfl hl.1 rfl (Nat.le_of_ble_eq_true rfl) dX7_tellItem_13 (fun H locs hW => ?_)
      refine lv_if_eq (tgt := 41) hx hb dX7_tellItem_16 (by decide) (fun c20 => ?_) (fun c20 => ?_)
      · have hf := z_it c20 hf
        refine lv_iinc (v := l2 + (1 : Int32)) (lv' := [(2, .int (l2 + (1 : Int32))), (0, .ref l0), (1, .ref l1)]) hx hb dX7_tellItem_41 hl (k := 2) rfl rfl (by decide) rfl (fun ls hl => ?_)
        refine lv_goto (tgt := 2) hx hb dX7_tellItem_44 (by decide) ?_
        exact ih M l0 l1 (l2 + (1 : Int32)) _ _ hf h0 h1 _ _ _ hW (lv_sub hl [1, 2, 0] rfl)
      · have hf := z_if c20 hf
        refine lv_aload_n hx hb dX7_tellItem_19 rfl (lv_at hl 1 rfl) ?_
        refine z_cV (As := []) (rest := []) B hW (f_X3_isFull l h1) sc_X3_isFull sv_X7_43 h1 ⟨Nat.le_of_ble_eq_true rfl, Nat.le_of_ble_eq_true rfl⟩ ⟨Nat.zero_le _, Nat.zero_le _⟩ rfl hl.1 rfl (Nat.le_of_ble_eq_true rfl) dX7_tellItem_20 (fun H locs hW => ?_)
        refine lv_if_ne (tgt := 39) hx hb dX7_tellItem_23 (by decide) (fun c23 => ?_) (fun c23 => ?_)
        · have hf := z_if c23 hf
          refine lv_iconst (v := 0) hx hb dX7_tellItem_39 (by decide) ?_
          obtain ⟨e1, e2⟩ := z_s2 hf
          subst e1
          subst e2
          exact z_rz B hW (Or.inl rfl) dX7_tellItem_40
        · have hf := z_it c23 hf
          refine lv_aload_n hx hb dX7_tellItem_26 rfl (lv_at hl 0 rfl) ?_
          refine lv_aload_n hx hb dX7_tellItem_27 rfl (lv_at hl 1 rfl) ?_
          refine lv_iload_n hx hb dX7_tellItem_28 rfl (lv_at hl 2 rfl) ?_
          obtain ⟨r24, M25, e26, hf⟩ := z_bpe hf
          refine z_cV (As := [.ref l1, .int l2]) (rest := []) B hW (f_X7_tellVisitor l e26 h0 h1) sc_X7_tellVisitor sv_X7_49 h0 ⟨Nat.le_of_ble_eq_true rfl, Nat.le_of_ble_eq_true rfl⟩ ⟨Nat.zero_le _, Nat.zero_le _⟩ rfl hl.1 rfl (Nat.le_of_ble_eq_true rfl) dX7_tellItem_29 (fun H locs hW => ?_)
          refine lv_if_eq (tgt := 39) hx hb dX7_tellItem_32 (by decide) (fun c27 => ?_) (fun c27 => ?_)
          · have hf := z_it c27 hf
            refine lv_iconst (v := 0) hx hb dX7_tellItem_39 (by decide) ?_
            obtain ⟨e1, e2⟩ := z_s2 hf
            subst e1
            subst e2
            exact z_rz B hW (Or.inl rfl) dX7_tellItem_40
          · have hf := z_if c27 hf
            refine lv_iconst (v := 1) hx hb dX7_tellItem_35 (by decide) ?_
            refine lv_goto (tgt := 40) hx hb dX7_tellItem_36 (by decide) ?_
            obtain ⟨e1, e2⟩ := z_s2 hf
            subst e1
            subst e2
            exact z_rz B hW (Or.inr rfl) dX7_tellItem_40
set_option maxHeartbeats 4000000 in
set_option maxRecDepth 100000 in
theorem f_X7_tellItem (l : Launch) {Γ : Zg} {M : Zm} {l0 : Nat} {l1 : Nat} {r : Int32} {M' : Zm} (hf : X7_tellItem Γ M l0 l1 = some (r, M')) (h0 : z_Is Γ 7 l0) (h1 : z_Is Γ 3 l1) : z_Fn l Γ yX7_tellItem cX7_tellItem 3 (some .boolean) 7 176 [.ref l0, .ref l1] M (some (.int r)) M' := by
  refine z_Fn.of (by decide) (Nat.le_of_ble_eq_true rfl) ?_
  intro p e s m below meth c ls B hW hl
  have B : z_Bd Γ p s m _ meth c cX7_tellItem 3 (some .boolean) RX7 := B
  have hl : lv_has ls 3 [(0, .ref l0), (1, .ref l1)] := hl
  rw [X7_tellItem] at hf
  have hx := B.1
  have hb := B.2.1
  have hml := B.2.2.1
  have ho := B.2.2.2.1
  have hw := B.2.2.2.2.1
  have hE := B.2.2.2.2.2.1.2.2
  have hg := B.2.2.2.2.2.2.1
  refine lv_iconst (v := 0) hx hb dX7_tellItem_0 (by decide) ?_
  refine lv_istore_n (lv' := [(2, .int (0 : Int32)), (0, .ref l0), (1, .ref l1)]) hx hb dX7_tellItem_1 rfl hl (by decide) rfl (fun ls hl => ?_)
  exact w_X7_tellItem_P2 B 1000 M l0 l1 (0 : Int32) _ _ hf h0 h1 _ _ _ hW (lv_sub hl [1, 2, 0] rfl)
set_option maxHeartbeats 4000000 in
set_option maxRecDepth 100000 in
theorem w_X7_tellTo_P11 (B : z_Bd Γ p s m args meth c cX7_tellTo 3 (some .int) RX7) : ∀ (n : Nat) (M : Zm) (l0 : Nat) (l1 : Nat) (l2 : Int32) (r : Int32) (M' : Zm), X7_tellTo_P11 Γ n M l0 l1 l2 = some (r, M') → z_Is Γ 7 l0 → z_Is Γ 3 l1 → ∀ (H : Heap) (locs : List Loc) (ls : Array Slot), z_Wd Γ M s.heap H locs → lv_has ls 3 [(0, .ref l0), (1, .ref l1), (2, .int l2)] → W p l e (z_rm 8 198) s m args below meth c H locs 0 0 (z_Q Γ below args s (some (.int r)) M') (F0 m 11 ls []) := by
  have hx := B.1
  have hb := B.2.1
  have hml := B.2.2.1
  have ho := B.2.2.2.1
  have hw := B.2.2.2.2.1
  have hE := B.2.2.2.2.2.1.2.2
  have hg := B.2.2.2.2.2.2.1
  intro n
  induction n with
  | zero =>
    intro M l0 l1 l2 r M' hf h0 h1 H locs ls hW hl
    cases hf
  | succ n ih =>
    intro M l0 l1 l2 r M' hf h0 h1 H locs ls hW hl
    rw [X7_tellTo_P11] at hf
    refine lv_iload_n hx hb dX7_tellTo_11 rfl (lv_at hl 2 rfl) ?_
    refine lv_bipush (v := 120) hx hb dX7_tellTo_12 (by decide) ?_
    refine lv_icmp_gt (tgt := 66) hx hb dX7_tellTo_14 (by decide) (fun c6 => ?_) (fun c6 => ?_)
    · have hf := z_it c6 hf
      refine lv_iconst (v := -1) hx hb dX7_tellTo_66 (by decide) ?_
      refine lv_aload_n hx hb dX7_tellTo_67 rfl (lv_at hl 0 rfl) ?_
      refine z_get_7_3 B hW h0 q219 dX7_tellTo_68 ?_
      refine lv_isub hx hb dX7_tellTo_71 ?_
      obtain ⟨e1, e2⟩ := z_s2 hf
      subst e1
      subst e2
      exact z_ri B hW dX7_tellTo_72
    · have hf := z_if c6 hf
      refine lv_aload_n hx hb dX7_tellTo_17 rfl (lv_at hl 0 rfl) ?_
      refine lv_aload_n hx hb dX7_tellTo_18 rfl (lv_at hl 1 rfl) ?_
      obtain ⟨r7, M8, e9, hf⟩ := z_bpe hf
      refine z_cV (As := [.ref l1]) (rest := []) B hW (f_X7_tellItem l e9 h0 h1) sc_X7_tellItem sv_X7_25 h0 ⟨Nat.le_of_ble_eq_true rfl, Nat.le_of_ble_eq_true rfl⟩ ⟨Nat.zero_le _, Nat.zero_le _⟩ rfl hl.1 rfl (Nat.le_of_ble_eq_true rfl) dX7_tellTo_19 (fun H locs hW => ?_)
      refine lv_if_ne (tgt := 32) hx hb dX7_tellTo_22 (by decide) (fun c10 => ?_) (fun c10 => ?_)
      · have hf := z_if c10 hf
        refine lv_aload_n hx hb dX7_tellTo_32 rfl (lv_at hl 0 rfl) ?_
        refine z_get_7_2 B hW h0 q218 dX7_tellTo_33 ?_
        refine lv_if_ne (tgt := 41) hx hb dX7_tellTo_36 (by decide) (fun c11 => ?_) (fun c11 => ?_)
        · have hf := z_if c11 hf
          refine lv_aload_n hx hb dX7_tellTo_41 rfl (lv_at hl 0 rfl) ?_
          refine z_get_7_2 B hW h0 q218 dX7_tellTo_42 ?_
          refine lv_iconst (v := 3) hx hb dX7_tellTo_45 (by decide) ?_
          refine lv_icmp_eq (tgt := 56) hx hb dX7_tellTo_46 (by decide) (fun c12 => ?_) (fun c12 => ?_)
          · have hf := z_it c12 hf
            refine lv_aload_n hx hb dX7_tellTo_56 rfl (lv_at hl 0 rfl) ?_
            obtain ⟨M14, e15, hf⟩ := z_bd hf
            refine z_cV (As := []) (rest := []) B hW (f_X7_advance l e15 h0) sc_X7_advance sv_X7_22 h0 ⟨Nat.le_of_ble_eq_true rfl, Nat.le_of_ble_eq_true rfl⟩ ⟨Nat.zero_le _, Nat.zero_le _⟩ rfl hl.1 rfl (Nat.le_of_ble_eq_true rfl) dX7_tellTo_57 (fun H locs hW => ?_)
            refine lv_iinc (v := l2 + (1 : Int32)) (lv' := [(2, .int (l2 + (1 : Int32))), (0, .ref l0), (1, .ref l1)]) hx hb dX7_tellTo_60 hl (k := 2) rfl rfl (by decide) rfl (fun ls hl => ?_)
            refine lv_goto (tgt := 11) hx hb dX7_tellTo_63 (by decide) ?_
            exact ih M14 l0 l1 (l2 + (1 : Int32)) _ _ hf h0 h1 _ _ _ hW (lv_sub hl [1, 2, 0] rfl)
          · have hf := z_if c12 hf
            refine lv_iconst (v := -1) hx hb dX7_tellTo_49 (by decide) ?_
            refine lv_aload_n hx hb dX7_tellTo_50 rfl (lv_at hl 0 rfl) ?_
            refine z_get_7_3 B hW h0 q219 dX7_tellTo_51 ?_
            refine lv_isub hx hb dX7_tellTo_54 ?_
            obtain ⟨e1, e2⟩ := z_s2 hf
            subst e1
            subst e2
            exact z_ri B hW dX7_tellTo_55
        · have hf := z_it c11 hf
          refine lv_iload_n hx hb dX7_tellTo_39 rfl (lv_at hl 2 rfl) ?_
          obtain ⟨e1, e2⟩ := z_s2 hf
          subst e1
          subst e2
          exact z_ri B hW dX7_tellTo_40
      · have hf := z_it c10 hf
        refine lv_iconst (v := -1) hx hb dX7_tellTo_25 (by decide) ?_
        refine lv_aload_n hx hb dX7_tellTo_26 rfl (lv_at hl 0 rfl) ?_
        refine z_get_7_3 B hW h0 q219 dX7_tellTo_27 ?_
        refine lv_isub hx hb dX7_tellTo_30 ?_
        obtain ⟨e1, e2⟩ := z_s2 hf
        subst e1
        subst e2
        exact z_ri B hW dX7_tellTo_31
set_option maxHeartbeats 4000000 in
set_option maxRecDepth 100000 in
theorem f_X7_tellTo (l : Launch) {Γ : Zg} {M : Zm} {l0 : Nat} {l1 : Nat} {r : Int32} {M' : Zm} (hf : X7_tellTo Γ M l0 l1 = some (r, M')) (h0 : z_Is Γ 7 l0) (h1 : z_Is Γ 3 l1) : z_Fn l Γ yX7_tellTo cX7_tellTo 3 (some .int) 8 198 [.ref l0, .ref l1] M (some (.int r)) M' := by
  refine z_Fn.of (by decide) (Nat.le_of_ble_eq_true rfl) ?_
  intro p e s m below meth c ls B hW hl
  have B : z_Bd Γ p s m _ meth c cX7_tellTo 3 (some .int) RX7 := B
  have hl : lv_has ls 3 [(0, .ref l0), (1, .ref l1)] := hl
  rw [X7_tellTo] at hf
  have hx := B.1
  have hb := B.2.1
  have hml := B.2.2.1
  have ho := B.2.2.2.1
  have hw := B.2.2.2.2.1
  have hE := B.2.2.2.2.2.1.2.2
  have hg := B.2.2.2.2.2.2.1
  refine lv_aload_n hx hb dX7_tellTo_0 rfl (lv_at hl 0 rfl) ?_
  refine lv_iconst (v := 0) hx hb dX7_tellTo_1 (by decide) ?_
  refine z_put_7_4 B hW h0 q220 dX7_tellTo_2 (fun H locs hW => ?_)
  obtain ⟨M1, e2, hf⟩ := z_le hf
  have hW := z_wde e2 hW
  refine lv_aload_n hx hb dX7_tellTo_5 rfl (lv_at hl 0 rfl) ?_
  obtain ⟨M4, e5, hf⟩ := z_bd hf
  refine z_cV (As := []) (rest := []) B hW (f_X7_advance l e5 h0) sc_X7_advance sv_X7_22 h0 ⟨Nat.le_of_ble_eq_true rfl, Nat.le_of_ble_eq_true rfl⟩ ⟨Nat.zero_le _, Nat.zero_le _⟩ rfl hl.1 rfl (Nat.le_of_ble_eq_true rfl) dX7_tellTo_6 (fun H locs hW => ?_)
  refine lv_iconst (v := 1) hx hb dX7_tellTo_9 (by decide) ?_
  refine lv_istore_n (lv' := [(2, .int (1 : Int32)), (0, .ref l0), (1, .ref l1)]) hx hb dX7_tellTo_10 rfl hl (by decide) rfl (fun ls hl => ?_)
  exact w_X7_tellTo_P11 B 1000 M4 l0 l1 (1 : Int32) _ _ hf h0 h1 _ _ _ hW (lv_sub hl [1, 2, 0] rfl)
set_option maxHeartbeats 4000000 in
set_option maxRecDepth 100000 in
theorem f_X8_learnJust (l : Launch) {Γ : Zg} {M : Zm} {l0 : Nat} {l1 : Int32} {r : Int32} {M' : Zm} (hf : X8_learnJust M l0 l1 = (r, M')) (h0 : z_Is Γ 8 l0) : z_Fn l Γ yX8_learnJust cX8_learnJust 3 (some .int) 0 0 [.ref l0, .int l1] M (some (.int r)) M' := by
  refine z_Fn.of (by decide) (Nat.le_of_ble_eq_true rfl) ?_
  intro p e s m below meth c ls B hW hl
  have B : z_Bd Γ p s m _ meth c cX8_learnJust 3 (some .int) RX8 := B
  have hl : lv_has ls 3 [(0, .ref l0), (1, .int l1)] := hl
  rw [X8_learnJust] at hf
  have hx := B.1
  have hb := B.2.1
  have hml := B.2.2.1
  have ho := B.2.2.2.1
  have hw := B.2.2.2.2.1
  have hE := B.2.2.2.2.2.1.2.2
  have hg := B.2.2.2.2.2.2.1
  refine lv_aload_n hx hb dX8_learnJust_0 rfl (lv_at hl 0 rfl) ?_
  refine z_get_8_1 B hW h0 q153 dX8_learnJust_1 ?_
  refine lv_istore_n (lv' := [(2, .int (M.1 l0 1)), (0, .ref l0), (1, .int l1)]) hx hb dX8_learnJust_4 rfl hl (by decide) rfl (fun ls hl => ?_)
  refine lv_aload_n hx hb dX8_learnJust_5 rfl (lv_at hl 1 rfl) ?_
  refine lv_iload_n hx hb dX8_learnJust_6 rfl (lv_at hl 2 rfl) ?_
  refine z_put_8_1 B hW h0 q153 dX8_learnJust_7 (fun H locs hW => ?_)
  obtain ⟨M1, e2, hf⟩ := z_le hf
  have hW := z_wde e2 hW
  refine lv_aload_n hx hb dX8_learnJust_10 rfl (lv_at hl 1 rfl) ?_
  refine lv_dup hx hb dX8_learnJust_11 rfl ?_
  refine z_get_8_2 B hW h0 q159 dX8_learnJust_12 ?_
  refine lv_iload_n hx hb dX8_learnJust_15 rfl (lv_at hl 2 rfl) ?_
  refine lv_iand hx hb dX8_learnJust_16 ?_
  refine z_put_8_2 B hW h0 q159 dX8_learnJust_17 (fun H locs hW => ?_)
  obtain ⟨M3, e4, hf⟩ := z_le hf
  have hW := z_wde e4 hW
  refine lv_iload_n hx hb dX8_learnJust_20 rfl (lv_at hl 0 rfl) ?_
  obtain ⟨e1, e2⟩ := Prod.mk.inj hf
  subst e1
  subst e2
  exact z_ri B hW dX8_learnJust_21
set_option maxHeartbeats 4000000 in
set_option maxRecDepth 100000 in
theorem f_X8_believeJust (l : Launch) {Γ : Zg} {M : Zm} {l0 : Nat} {l1 : Int32} {r : Int32} {M' : Zm} (hf : X8_believeJust M l0 l1 = (r, M')) (h0 : z_Is Γ 8 l0) : z_Fn l Γ yX8_believeJust cX8_believeJust 3 (some .int) 0 0 [.ref l0, .int l1] M (some (.int r)) M' := by
  refine z_Fn.of (by decide) (Nat.le_of_ble_eq_true rfl) ?_
  intro p e s m below meth c ls B hW hl
  have B : z_Bd Γ p s m _ meth c cX8_believeJust 3 (some .int) RX8 := B
  have hl : lv_has ls 3 [(0, .ref l0), (1, .int l1)] := hl
  rw [X8_believeJust] at hf
  have hx := B.1
  have hb := B.2.1
  have hml := B.2.2.1
  have ho := B.2.2.2.1
  have hw := B.2.2.2.2.1
  have hE := B.2.2.2.2.2.1.2.2
  have hg := B.2.2.2.2.2.2.1
  refine lv_aload_n hx hb dX8_believeJust_0 rfl (lv_at hl 0 rfl) ?_
  refine z_get_8_2 B hW h0 q159 dX8_believeJust_1 ?_
  refine lv_istore_n (lv' := [(2, .int (M.1 l0 2)), (0, .ref l0), (1, .int l1)]) hx hb dX8_believeJust_4 rfl hl (by decide) rfl (fun ls hl => ?_)
  refine lv_aload_n hx hb dX8_believeJust_5 rfl (lv_at hl 1 rfl) ?_
  refine lv_iload_n hx hb dX8_believeJust_6 rfl (lv_at hl 2 rfl) ?_
  refine z_put_8_2 B hW h0 q159 dX8_believeJust_7 (fun H locs hW => ?_)
  obtain ⟨M1, e2, hf⟩ := z_le hf
  have hW := z_wde e2 hW
  refine lv_iload_n hx hb dX8_believeJust_10 rfl (lv_at hl 0 rfl) ?_
  obtain ⟨e1, e2⟩ := Prod.mk.inj hf
  subst e1
  subst e2
  exact z_ri B hW dX8_believeJust_11
set_option maxHeartbeats 4000000 in
set_option maxRecDepth 100000 in
theorem f_X8_haveHeard (l : Launch) {Γ : Zg} {M : Zm} {l0 : Nat} {l1 : Int32} {r : Int32} {M' : Zm} (hf : X8_haveHeard M l0 l1 = (r, M')) (h0 : z_Is Γ 8 l0) : z_Fn l Γ yX8_haveHeard cX8_haveHeard 3 (some .int) 0 0 [.ref l0, .int l1] M (some (.int r)) M' := by
  refine z_Fn.of (by decide) (Nat.le_of_ble_eq_true rfl) ?_
  intro p e s m below meth c ls B hW hl
  have B : z_Bd Γ p s m _ meth c cX8_haveHeard 3 (some .int) RX8 := B
  have hl : lv_has ls 3 [(0, .ref l0), (1, .int l1)] := hl
  rw [X8_haveHeard] at hf
  have hx := B.1
  have hb := B.2.1
  have hml := B.2.2.1
  have ho := B.2.2.2.1
  have hw := B.2.2.2.2.1
  have hE := B.2.2.2.2.2.1.2.2
  have hg := B.2.2.2.2.2.2.1
  refine lv_aload_n hx hb dX8_haveHeard_0 rfl (lv_at hl 0 rfl) ?_
  refine z_get_8_5 B hW h0 q169 dX8_haveHeard_1 ?_
  refine lv_istore_n (lv' := [(2, .int (M.1 l0 5)), (0, .ref l0), (1, .int l1)]) hx hb dX8_haveHeard_4 rfl hl (by decide) rfl (fun ls hl => ?_)
  refine lv_aload_n hx hb dX8_haveHeard_5 rfl (lv_at hl 1 rfl) ?_
  refine lv_iload_n hx hb dX8_haveHeard_6 rfl (lv_at hl 2 rfl) ?_
  refine z_put_8_5 B hW h0 q169 dX8_haveHeard_7 (fun H locs hW => ?_)
  obtain ⟨M1, e2, hf⟩ := z_le hf
  have hW := z_wde e2 hW
  refine lv_iload_n hx hb dX8_haveHeard_10 rfl (lv_at hl 0 rfl) ?_
  obtain ⟨e1, e2⟩ := Prod.mk.inj hf
  subst e1
  subst e2
  exact z_ri B hW dX8_haveHeard_11
set_option maxHeartbeats 4000000 in
set_option maxRecDepth 100000 in
theorem f_X10_isSetOfSecrets (l : Launch) {Γ : Zg} {M : Zm} {l0 : Int32}  : z_Fn l Γ yX10_isSetOfSecrets cX10_isSetOfSecrets 1 (some .boolean) 0 0 [.int l0] M (some (.int (X10_isSetOfSecrets l0))) M := by
  generalize hf : X10_isSetOfSecrets l0 = r
  refine z_Fn.of (by decide) (Nat.le_of_ble_eq_true rfl) ?_
  intro p e s m below meth c ls B hW hl
  have B : z_Bd Γ p s m _ meth c cX10_isSetOfSecrets 1 (some .boolean) RX10 := B
  have hl : lv_has ls 1 [(0, .int l0)] := hl
  rw [X10_isSetOfSecrets] at hf
  have hx := B.1
  have hb := B.2.1
  have hml := B.2.2.1
  have ho := B.2.2.2.1
  have hw := B.2.2.2.2.1
  have hE := B.2.2.2.2.2.1.2.2
  have hg := B.2.2.2.2.2.2.1
  refine lv_iload_n hx hb dX10_isSetOfSecrets_0 rfl (lv_at hl 0 rfl) ?_
  refine lv_if_lt (tgt := 15) hx hb dX10_isSetOfSecrets_1 (by decide) (fun c1 => ?_) (fun c1 => ?_)
  · have hf := z_it c1 hf
    refine lv_iconst (v := 0) hx hb dX10_isSetOfSecrets_15 (by decide) ?_
    subst hf
    exact z_rz B hW (Or.inl rfl) dX10_isSetOfSecrets_16
  · have hf := z_if c1 hf
    refine lv_iload_n hx hb dX10_isSetOfSecrets_4 rfl (lv_at hl 0 rfl) ?_
    refine lv_sipush (v := 1023) hx hb dX10_isSetOfSecrets_5 (by decide) ?_
    refine lv_icmp_gt (tgt := 15) hx hb dX10_isSetOfSecrets_8 (by decide) (fun c2 => ?_) (fun c2 => ?_)
    · have hf := z_it c2 hf
      refine lv_iconst (v := 0) hx hb dX10_isSetOfSecrets_15 (by decide) ?_
      subst hf
      exact z_rz B hW (Or.inl rfl) dX10_isSetOfSecrets_16
    · have hf := z_if c2 hf
      refine lv_iconst (v := 1) hx hb dX10_isSetOfSecrets_11 (by decide) ?_
      refine lv_goto (tgt := 16) hx hb dX10_isSetOfSecrets_12 (by decide) ?_
      subst hf
      exact z_rz B hW (Or.inr rfl) dX10_isSetOfSecrets_16
set_option maxHeartbeats 4000000 in
set_option maxRecDepth 100000 in
theorem f_X10_finding (l : Launch) {Γ : Zg} {M : Zm} {l0 : Nat} {l1 : Int32} {r : Int32} {M' : Zm} (hf : X10_finding Γ M l0 l1 = some (r, M')) (h0 : z_Is Γ 10 l0) : z_Fn l Γ yX10_finding cX10_finding 3 (some .int) 0 0 [.ref l0, .int l1] M (some (.int r)) M' := by
  refine z_Fn.of (by decide) (Nat.le_of_ble_eq_true rfl) ?_
  intro p e s m below meth c ls B hW hl
  have B : z_Bd Γ p s m _ meth c cX10_finding 3 (some .int) RX10 := B
  have hl : lv_has ls 3 [(0, .ref l0), (1, .int l1)] := hl
  rw [X10_finding] at hf
  have hx := B.1
  have hb := B.2.1
  have hml := B.2.2.1
  have ho := B.2.2.2.1
  have hw := B.2.2.2.2.1
  have hE := B.2.2.2.2.2.1.2.2
  have hg := B.2.2.2.2.2.2.1
  refine lv_ldc hx hb ho (hw _ q289) dX10_finding_0 ?_
  refine lv_iload_n hx hb dX10_finding_2 rfl (lv_at hl 1 rfl) ?_
  refine lv_isub hx hb dX10_finding_3 ?_
  refine lv_istore_n (lv' := [(2, .int ((-1000000001 : Int32) - l1)), (0, .ref l0), (1, .int l1)]) hx hb dX10_finding_4 rfl hl (by decide) rfl (fun ls hl => ?_)
  refine lv_iload_n hx hb dX10_finding_5 rfl (lv_at hl 0 rfl) ?_
  refine lv_if_lt (tgt := 25) hx hb dX10_finding_6 (by decide) (fun c1 => ?_) (fun c1 => ?_)
  · have hf := z_it c1 hf
    refine lv_iload_n hx hb dX10_finding_25 rfl (lv_at hl 2 rfl) ?_
    obtain ⟨e1, e2⟩ := z_s2 hf
    subst e1
    subst e2
    exact z_ri B hW dX10_finding_26
  · have hf := z_if c1 hf
    refine lv_iload_n hx hb dX10_finding_9 rfl (lv_at hl 0 rfl) ?_
    refine lv_bipush (v := 7) hx hb dX10_finding_10 (by decide) ?_
    refine lv_icmp_ge (tgt := 25) hx hb dX10_finding_12 (by decide) (fun c2 => ?_) (fun c2 => ?_)
    · have hf := z_it c2 hf
      refine lv_iload_n hx hb dX10_finding_25 rfl (lv_at hl 2 rfl) ?_
      obtain ⟨e1, e2⟩ := z_s2 hf
      subst e1
      subst e2
      exact z_ri B hW dX10_finding_26
    · have hf := z_if c2 hf
      refine lv_aload_n hx hb dX10_finding_15 rfl (lv_at hl 1 rfl) ?_
      refine z_get_10_6 B hW h0 q263 dX10_finding_16 ?_
      refine lv_iload_n hx hb dX10_finding_19 rfl (lv_at hl 0 rfl) ?_
      refine lv_dup2_11 hx hb dX10_finding_20 rfl rfl ?_
      obtain ⟨g3, hf⟩ := z_gd hf
      refine z_ia B hW (z_g10_6 hg h0) g3 dX10_finding_21 ?_
      refine lv_iconst (v := 1) hx hb dX10_finding_22 (by decide) ?_
      refine lv_iadd hx hb dX10_finding_23 ?_
      obtain ⟨g4, hf⟩ := z_gd hf
      refine z_is B hW (z_g10_6 hg h0) g4 dX10_finding_24 (fun H locs hW => ?_)
      obtain ⟨M5, e6, hf⟩ := z_le hf
      have hW := z_wde e6 hW
      refine lv_iload_n hx hb dX10_finding_25 rfl (lv_at hl 2 rfl) ?_
      obtain ⟨e1, e2⟩ := z_s2 hf
      subst e1
      subst e2
      exact z_ri B hW dX10_finding_26
set_option maxHeartbeats 4000000 in
set_option maxRecDepth 100000 in
theorem f_X10_sham (l : Launch) {Γ : Zg} {M : Zm} {l0 : Nat} {l1 : Int32} {r : Int32} {M' : Zm} (hf : X10_sham Γ M l0 l1 = some (r, M')) (h0 : z_Is Γ 10 l0) : z_Fn l Γ yX10_sham cX10_sham 3 (some .int) 1 22 [.ref l0, .int l1] M (some (.int r)) M' := by
  refine z_Fn.of (by decide) (Nat.le_of_ble_eq_true rfl) ?_
  intro p e s m below meth c ls B hW hl
  have B : z_Bd Γ p s m _ meth c cX10_sham 3 (some .int) RX10 := B
  have hl : lv_has ls 3 [(0, .ref l0), (1, .int l1)] := hl
  rw [X10_sham] at hf
  have hx := B.1
  have hb := B.2.1
  have hml := B.2.2.1
  have ho := B.2.2.2.1
  have hw := B.2.2.2.2.1
  have hE := B.2.2.2.2.2.1.2.2
  have hg := B.2.2.2.2.2.2.1
  refine lv_iload_n hx hb dX10_sham_0 rfl (lv_at hl 1 rfl) ?_
  refine z_cS (As := [.int l1]) (rest := []) B hW (f_X10_isSetOfSecrets l) sc_X10_isSetOfSecrets ⟨q286, q287⟩ ⟨Nat.le_of_ble_eq_true rfl, Nat.le_of_ble_eq_true rfl⟩ ⟨Nat.zero_le _, Nat.zero_le _⟩ rfl hl.1 rfl (Nat.le_of_ble_eq_true rfl) dX10_sham_1 (fun H locs hW => ?_)
  refine lv_if_ne (tgt := 14) hx hb dX10_sham_4 (by decide) (fun c3 => ?_) (fun c3 => ?_)
  · have hf := z_if c3 hf
    refine lv_aload_n hx hb dX10_sham_14 rfl (lv_at hl 0 rfl) ?_
    refine z_get_10_0 B hW h0 q257 dX10_sham_15 ?_
    refine z_getN_3_3 B hW (z_g10_0 hg h0) q190 dX10_sham_18 ?_
    refine lv_istore_n (lv' := [(2, .int (M.1 (z_r Γ l0 0) 3)), (0, .ref l0), (1, .int l1)]) hx hb dX10_sham_21 rfl hl (by decide) rfl (fun ls hl => ?_)
    refine lv_aload_n hx hb dX10_sham_22 rfl (lv_at hl 1 rfl) ?_
    refine z_get_10_0 B hW h0 q257 dX10_sham_23 ?_
    refine lv_iload_n hx hb dX10_sham_26 rfl (lv_at hl 2 rfl) ?_
    refine z_putN_3_3 B hW (z_g10_0 hg h0) q190 dX10_sham_27 (fun H locs hW => ?_)
    obtain ⟨M4, e5, hf⟩ := z_le hf
    have hW := z_wde e5 hW
    refine lv_iload_n hx hb dX10_sham_30 rfl (lv_at hl 0 rfl) ?_
    obtain ⟨e1, e2⟩ := z_s2 hf
    subst e1
    subst e2
    exact z_ri B hW dX10_sham_31
  · have hf := z_it c3 hf
    refine lv_aload_n hx hb dX10_sham_7 rfl (lv_at hl 0 rfl) ?_
    refine lv_ldc hx hb ho (hw _ q289) dX10_sham_8 ?_
    obtain ⟨r6, M7, e8, hf⟩ := z_bpe hf
    refine z_cV (As := [.int (-1000000001 : Int32)]) (rest := []) B hW (f_X10_finding l e8 h0) sc_X10_finding sv_X10_72 h0 ⟨Nat.le_of_ble_eq_true rfl, Nat.le_of_ble_eq_true rfl⟩ ⟨Nat.zero_le _, Nat.zero_le _⟩ rfl hl.1 rfl (Nat.le_of_ble_eq_true rfl) dX10_sham_10 (fun H locs hW => ?_)
    obtain ⟨e1, e2⟩ := z_s2 hf
    subst e1
    subst e2
    exact z_ri B hW dX10_sham_13
set_option maxHeartbeats 4000000 in
set_option maxRecDepth 100000 in
theorem f_X10_isSecret (l : Launch) {Γ : Zg} {M : Zm} {l0 : Int32}  : z_Fn l Γ yX10_isSecret cX10_isSecret 1 (some .boolean) 0 0 [.int l0] M (some (.int (X10_isSecret l0))) M := by
  generalize hf : X10_isSecret l0 = r
  refine z_Fn.of (by decide) (Nat.le_of_ble_eq_true rfl) ?_
  intro p e s m below meth c ls B hW hl
  have B : z_Bd Γ p s m _ meth c cX10_isSecret 1 (some .boolean) RX10 := B
  have hl : lv_has ls 1 [(0, .int l0)] := hl
  rw [X10_isSecret] at hf
  have hx := B.1
  have hb := B.2.1
  have hml := B.2.2.1
  have ho := B.2.2.2.1
  have hw := B.2.2.2.2.1
  have hE := B.2.2.2.2.2.1.2.2
  have hg := B.2.2.2.2.2.2.1
  refine lv_iload_n hx hb dX10_isSecret_0 rfl (lv_at hl 0 rfl) ?_
  refine lv_if_lt (tgt := 14) hx hb dX10_isSecret_1 (by decide) (fun c1 => ?_) (fun c1 => ?_)
  · have hf := z_it c1 hf
    refine lv_iconst (v := 0) hx hb dX10_isSecret_14 (by decide) ?_
    subst hf
    exact z_rz B hW (Or.inl rfl) dX10_isSecret_15
  · have hf := z_if c1 hf
    refine lv_iload_n hx hb dX10_isSecret_4 rfl (lv_at hl 0 rfl) ?_
    refine lv_bipush (v := 10) hx hb dX10_isSecret_5 (by decide) ?_
    refine lv_icmp_ge (tgt := 14) hx hb dX10_isSecret_7 (by decide) (fun c2 => ?_) (fun c2 => ?_)
    · have hf := z_it c2 hf
      refine lv_iconst (v := 0) hx hb dX10_isSecret_14 (by decide) ?_
      subst hf
      exact z_rz B hW (Or.inl rfl) dX10_isSecret_15
    · have hf := z_if c2 hf
      refine lv_iconst (v := 1) hx hb dX10_isSecret_10 (by decide) ?_
      refine lv_goto (tgt := 15) hx hb dX10_isSecret_11 (by decide) ?_
      subst hf
      exact z_rz B hW (Or.inr rfl) dX10_isSecret_15
set_option maxHeartbeats 4000000 in
set_option maxRecDepth 100000 in
theorem w_X10_who_P28 (B : z_Bd Γ p s m args meth c cX10_who 6 (some .int) RX10) : ∀ (n : Nat) (M : Zm) (l0 : Nat) (l1 : Int32) (l2 : Int32) (l3 : Int32) (l4 : Int32) (r : Int32) (M' : Zm), X10_who_P28 Γ n M l0 l1 l2 l3 l4 = some (r, M') → z_Is Γ 10 l0 → ∀ (H : Heap) (locs : List Loc) (ls : Array Slot), z_Wd Γ M s.heap H locs → lv_has ls 6 [(0, .ref l0), (1, .int l1), (2, .int l2), (3, .int l3), (4, .int l4)] → W p l e (z_rm 1 22) s m args below meth c H locs 0 0 (z_Q Γ below args s (some (.int r)) M') (F0 m 28 ls []) := by
  have hx := B.1
  have hb := B.2.1
  have hml := B.2.2.1
  have ho := B.2.2.2.1
  have hw := B.2.2.2.2.1
  have hE := B.2.2.2.2.2.1.2.2
  have hg := B.2.2.2.2.2.2.1
  intro n
  induction n with
  | zero =>
    intro M l0 l1 l2 l3 l4 r M' hf h0 H locs ls hW hl
    cases hf
  | succ n ih =>
    intro M l0 l1 l2 l3 l4 r M' hf h0 H locs ls hW hl
    rw [X10_who_P28] at hf
    refine lv_iload hx hb dX10_who_28 (lv_at hl 4 rfl) ?_
    refine lv_aload_n hx hb dX10_who_30 rfl (lv_at hl 0 rfl) ?_
    refine z_get_10_0 B hW h0 q257 dX10_who_31 ?_
    refine z_getN_3_2 B hW (z_g10_0 hg h0) q188 dX10_who_34 ?_
    refine lv_icmp_ge (tgt := 84) hx hb dX10_who_37 (by decide) (fun c15 => ?_) (fun c15 => ?_)
    · have hf := z_it c15 hf
      refine lv_iload_n hx hb dX10_who_84 rfl (lv_at hl 3 rfl) ?_
      obtain ⟨e1, e2⟩ := z_s2 hf
      subst e1
      subst e2
      exact z_ri B hW dX10_who_85
    · have hf := z_if c15 hf
      refine lv_aload_n hx hb dX10_who_40 rfl (lv_at hl 0 rfl) ?_
      refine z_get_10_0 B hW h0 q257 dX10_who_41 ?_
      refine lv_iload hx hb dX10_who_44 (lv_at hl 4 rfl) ?_
      obtain ⟨r16, e17, hf⟩ := z_bd hf
      refine z_cV (As := [.int l4]) (rest := []) B hW (f_X3_visitor l e17 (z_g10_0 hg h0)) sc_X3_visitor sv_X10_86 (z_g10_0 hg h0) ⟨Nat.le_of_ble_eq_true rfl, Nat.le_of_ble_eq_true rfl⟩ ⟨Nat.zero_le _, Nat.zero_le _⟩ rfl hl.1 rfl (Nat.le_of_ble_eq_true rfl) dX10_who_46 (fun H locs hW => ?_)
      refine lv_astore (lv' := [(5, .ref r16), (0, .ref l0), (1, .int l1), (2, .int l2), (3, .int l3), (4, .int l4)]) hx hb dX10_who_49 hl (by decide) rfl (fun ls hl => ?_)
      refine lv_iload_n hx hb dX10_who_51 rfl (lv_at hl 4 rfl) ?_
      refine lv_iload_n hx hb dX10_who_52 rfl (lv_at hl 3 rfl) ?_
      refine lv_if_ne (tgt := 64) hx hb dX10_who_53 (by decide) (fun c18 => ?_) (fun c18 => ?_)
      · have hf := z_if c18 hf
        refine lv_aload hx hb dX10_who_64 (lv_at hl 0 rfl) ?_
        refine z_getN_8_2 B hW (h_X3_visitor hg e17 (z_g10_0 hg h0)) q161 dX10_who_66 ?_
        refine lv_iload_n hx hb dX10_who_69 rfl (lv_at hl 2 rfl) ?_
        refine lv_ishr hx hb dX10_who_70 ?_
        refine lv_iconst (v := 1) hx hb dX10_who_71 (by decide) ?_
        refine lv_iand hx hb dX10_who_72 ?_
        refine lv_iload hx hb dX10_who_73 (lv_at hl 5 rfl) ?_
        refine lv_ishl hx hb dX10_who_75 ?_
        refine lv_ior hx hb dX10_who_76 ?_
        refine lv_istore_n (lv' := [(3, .int (l3 ||| ((((M.1 r16 2) >>> (l1 &&& 31)) &&& (1 : Int32)) <<< (l4 &&& 31)))), (5, .ref r16), (0, .ref l0), (1, .int l1), (2, .int l2), (4, .int l4)]) hx hb dX10_who_77 rfl hl (by decide) rfl (fun ls hl => ?_)
        refine lv_iinc (v := l4 + (1 : Int32)) (lv' := [(4, .int (l4 + (1 : Int32))), (3, .int (l3 ||| ((((M.1 r16 2) >>> (l1 &&& 31)) &&& (1 : Int32)) <<< (l4 &&& 31)))), (5, .ref r16), (0, .ref l0), (1, .int l1), (2, .int l2)]) hx hb dX10_who_78 hl (k := 5) rfl rfl (by decide) rfl (fun ls hl => ?_)
        refine lv_goto (tgt := 28) hx hb dX10_who_81 (by decide) ?_
        exact ih M l0 l1 l2 (l3 ||| ((((M.1 r16 2) >>> (l1 &&& 31)) &&& (1 : Int32)) <<< (l4 &&& 31))) (l4 + (1 : Int32)) _ _ hf h0 _ _ _ hW (lv_sub hl [3, 4, 5, 1, 0] rfl)
      · have hf := z_it c18 hf
        refine lv_aload hx hb dX10_who_56 (lv_at hl 0 rfl) ?_
        refine z_getN_8_1 B hW (h_X3_visitor hg e17 (z_g10_0 hg h0)) q156 dX10_who_58 ?_
        refine lv_goto (tgt := 69) hx hb dX10_who_61 (by decide) ?_
        refine lv_iload_n hx hb dX10_who_69 rfl (lv_at hl 2 rfl) ?_
        refine lv_ishr hx hb dX10_who_70 ?_
        refine lv_iconst (v := 1) hx hb dX10_who_71 (by decide) ?_
        refine lv_iand hx hb dX10_who_72 ?_
        refine lv_iload hx hb dX10_who_73 (lv_at hl 5 rfl) ?_
        refine lv_ishl hx hb dX10_who_75 ?_
        refine lv_ior hx hb dX10_who_76 ?_
        refine lv_istore_n (lv' := [(3, .int (l3 ||| ((((M.1 r16 1) >>> (l1 &&& 31)) &&& (1 : Int32)) <<< (l4 &&& 31)))), (5, .ref r16), (0, .ref l0), (1, .int l1), (2, .int l2), (4, .int l4)]) hx hb dX10_who_77 rfl hl (by decide) rfl (fun ls hl => ?_)
        refine lv_iinc (v := l4 + (1 : Int32)) (lv' := [(4, .int (l4 + (1 : Int32))), (3, .int (l3 ||| ((((M.1 r16 1) >>> (l1 &&& 31)) &&& (1 : Int32)) <<< (l4 &&& 31)))), (5, .ref r16), (0, .ref l0), (1, .int l1), (2, .int l2)]) hx hb dX10_who_78 hl (k := 5) rfl rfl (by decide) rfl (fun ls hl => ?_)
        refine lv_goto (tgt := 28) hx hb dX10_who_81 (by decide) ?_
        exact ih M l0 l1 l2 (l3 ||| ((((M.1 r16 1) >>> (l1 &&& 31)) &&& (1 : Int32)) <<< (l4 &&& 31))) (l4 + (1 : Int32)) _ _ hf h0 _ _ _ hW (lv_sub hl [3, 4, 5, 1, 0] rfl)
set_option maxHeartbeats 4000000 in
set_option maxRecDepth 100000 in
theorem f_X10_who (l : Launch) {Γ : Zg} {M : Zm} {l0 : Nat} {l1 : Int32} {l2 : Int32} {r : Int32} {M' : Zm} (hf : X10_who Γ M l0 l1 l2 = some (r, M')) (h0 : z_Is Γ 10 l0) : z_Fn l Γ yX10_who cX10_who 6 (some .int) 1 22 [.ref l0, .int l1, .int l2] M (some (.int r)) M' := by
  refine z_Fn.of (by decide) (Nat.le_of_ble_eq_true rfl) ?_
  intro p e s m below meth c ls B hW hl
  have B : z_Bd Γ p s m _ meth c cX10_who 6 (some .int) RX10 := B
  have hl : lv_has ls 6 [(0, .ref l0), (1, .int l1), (2, .int l2)] := hl
  rw [X10_who] at hf
  have hx := B.1
  have hb := B.2.1
  have hml := B.2.2.1
  have ho := B.2.2.2.1
  have hw := B.2.2.2.2.1
  have hE := B.2.2.2.2.2.1.2.2
  have hg := B.2.2.2.2.2.2.1
  refine lv_iload_n hx hb dX10_who_0 rfl (lv_at hl 1 rfl) ?_
  refine z_cS (As := [.int l1]) (rest := []) B hW (f_X10_isSecret l) sc_X10_isSecret ⟨q298, q299⟩ ⟨Nat.le_of_ble_eq_true rfl, Nat.le_of_ble_eq_true rfl⟩ ⟨Nat.zero_le _, Nat.zero_le _⟩ rfl hl.1 rfl (Nat.le_of_ble_eq_true rfl) dX10_who_1 (fun H locs hW => ?_)
  refine lv_if_eq (tgt := 16) hx hb dX10_who_4 (by decide) (fun c3 => ?_) (fun c3 => ?_)
  · have hf := z_it c3 hf
    refine lv_aload_n hx hb dX10_who_16 rfl (lv_at hl 0 rfl) ?_
    refine lv_ldc hx hb ho (hw _ q289) dX10_who_17 ?_
    obtain ⟨r4, M5, e6, hf⟩ := z_bpe hf
    refine z_cV (As := [.int (-1000000001 : Int32)]) (rest := []) B hW (f_X10_finding l e6 h0) sc_X10_finding sv_X10_72 h0 ⟨Nat.le_of_ble_eq_true rfl, Nat.le_of_ble_eq_true rfl⟩ ⟨Nat.zero_le _, Nat.zero_le _⟩ rfl hl.1 rfl (Nat.le_of_ble_eq_true rfl) dX10_who_19 (fun H locs hW => ?_)
    obtain ⟨e1, e2⟩ := z_s2 hf
    subst e1
    subst e2
    exact z_ri B hW dX10_who_22
  · have hf := z_if c3 hf
    refine lv_iload_n hx hb dX10_who_7 rfl (lv_at hl 2 rfl) ?_
    refine lv_if_lt (tgt := 16) hx hb dX10_who_8 (by decide) (fun c7 => ?_) (fun c7 => ?_)
    · have hf := z_it c7 hf
      refine lv_aload_n hx hb dX10_who_16 rfl (lv_at hl 0 rfl) ?_
      refine lv_ldc hx hb ho (hw _ q289) dX10_who_17 ?_
      obtain ⟨r8, M9, e10, hf⟩ := z_bpe hf
      refine z_cV (As := [.int (-1000000001 : Int32)]) (rest := []) B hW (f_X10_finding l e10 h0) sc_X10_finding sv_X10_72 h0 ⟨Nat.le_of_ble_eq_true rfl, Nat.le_of_ble_eq_true rfl⟩ ⟨Nat.zero_le _, Nat.zero_le _⟩ rfl hl.1 rfl (Nat.le_of_ble_eq_true rfl) dX10_who_19 (fun H locs hW => ?_)
      obtain ⟨e1, e2⟩ := z_s2 hf
      subst e1
      subst e2
      exact z_ri B hW dX10_who_22
    · have hf := z_if c7 hf
      refine lv_iload_n hx hb dX10_who_11 rfl (lv_at hl 2 rfl) ?_
      refine lv_iconst (v := 1) hx hb dX10_who_12 (by decide) ?_
      refine lv_icmp_le (tgt := 23) hx hb dX10_who_13 (by decide) (fun c11 => ?_) (fun c11 => ?_)
      · have hf := z_it c11 hf
        refine lv_iconst (v := 0) hx hb dX10_who_23 (by decide) ?_
        refine lv_istore_n (lv' := [(3, .int (0 : Int32)), (0, .ref l0), (1, .int l1), (2, .int l2)]) hx hb dX10_who_24 rfl hl (by decide) rfl (fun ls hl => ?_)
        refine lv_iconst (v := 0) hx hb dX10_who_25 (by decide) ?_
        refine lv_istore (lv' := [(4, .int (0 : Int32)), (3, .int (0 : Int32)), (0, .ref l0), (1, .int l1), (2, .int l2)]) hx hb dX10_who_26 hl (by decide) rfl (fun ls hl => ?_)
        exact w_X10_who_P28 B 1000 M l0 l1 l2 (0 : Int32) (0 : Int32) _ _ hf h0 _ _ _ hW (lv_sub hl [2, 3, 4, 1, 0] rfl)
      · have hf := z_if c11 hf
        refine lv_aload_n hx hb dX10_who_16 rfl (lv_at hl 0 rfl) ?_
        refine lv_ldc hx hb ho (hw _ q289) dX10_who_17 ?_
        obtain ⟨r12, M13, e14, hf⟩ := z_bpe hf
        refine z_cV (As := [.int (-1000000001 : Int32)]) (rest := []) B hW (f_X10_finding l e14 h0) sc_X10_finding sv_X10_72 h0 ⟨Nat.le_of_ble_eq_true rfl, Nat.le_of_ble_eq_true rfl⟩ ⟨Nat.zero_le _, Nat.zero_le _⟩ rfl hl.1 rfl (Nat.le_of_ble_eq_true rfl) dX10_who_19 (fun H locs hW => ?_)
        obtain ⟨e1, e2⟩ := z_s2 hf
        subst e1
        subst e2
        exact z_ri B hW dX10_who_22
set_option maxHeartbeats 4000000 in
set_option maxRecDepth 100000 in
theorem f_X10_isKind (l : Launch) {Γ : Zg} {M : Zm} {l0 : Int32}  : z_Fn l Γ yX10_isKind cX10_isKind 1 (some .boolean) 0 0 [.int l0] M (some (.int (X10_isKind l0))) M := by
  generalize hf : X10_isKind l0 = r
  refine z_Fn.of (by decide) (Nat.le_of_ble_eq_true rfl) ?_
  intro p e s m below meth c ls B hW hl
  have B : z_Bd Γ p s m _ meth c cX10_isKind 1 (some .boolean) RX10 := B
  have hl : lv_has ls 1 [(0, .int l0)] := hl
  rw [X10_isKind] at hf
  have hx := B.1
  have hb := B.2.1
  have hml := B.2.2.1
  have ho := B.2.2.2.1
  have hw := B.2.2.2.2.1
  have hE := B.2.2.2.2.2.1.2.2
  have hg := B.2.2.2.2.2.2.1
  refine lv_iload_n hx hb dX10_isKind_0 rfl (lv_at hl 0 rfl) ?_
  refine lv_if_lt (tgt := 14) hx hb dX10_isKind_1 (by decide) (fun c1 => ?_) (fun c1 => ?_)
  · have hf := z_it c1 hf
    refine lv_iconst (v := 0) hx hb dX10_isKind_14 (by decide) ?_
    subst hf
    exact z_rz B hW (Or.inl rfl) dX10_isKind_15
  · have hf := z_if c1 hf
    refine lv_iload_n hx hb dX10_isKind_4 rfl (lv_at hl 0 rfl) ?_
    refine lv_bipush (v := 6) hx hb dX10_isKind_5 (by decide) ?_
    refine lv_icmp_ge (tgt := 14) hx hb dX10_isKind_7 (by decide) (fun c2 => ?_) (fun c2 => ?_)
    · have hf := z_it c2 hf
      refine lv_iconst (v := 0) hx hb dX10_isKind_14 (by decide) ?_
      subst hf
      exact z_rz B hW (Or.inl rfl) dX10_isKind_15
    · have hf := z_if c2 hf
      refine lv_iconst (v := 1) hx hb dX10_isKind_10 (by decide) ?_
      refine lv_goto (tgt := 15) hx hb dX10_isKind_11 (by decide) ?_
      subst hf
      exact z_rz B hW (Or.inr rfl) dX10_isKind_15
set_option maxHeartbeats 4000000 in
set_option maxRecDepth 100000 in
theorem f_X10_person (l : Launch) {Γ : Zg} {M : Zm} {l0 : Nat} {l1 : Int32} {r : Int32} {M' : Zm} (hf : X10_person Γ M l0 l1 = some (r, M')) (h0 : z_Is Γ 10 l0) : z_Fn l Γ yX10_person cX10_person 2 (some .int) 3 63 [.ref l0, .int l1] M (some (.int r)) M' := by
  refine z_Fn.of (by decide) (Nat.le_of_ble_eq_true rfl) ?_
  intro p e s m below meth c ls B hW hl
  have B : z_Bd Γ p s m _ meth c cX10_person 2 (some .int) RX10 := B
  have hl : lv_has ls 2 [(0, .ref l0), (1, .int l1)] := hl
  rw [X10_person] at hf
  have hx := B.1
  have hb := B.2.1
  have hml := B.2.2.1
  have ho := B.2.2.2.1
  have hw := B.2.2.2.2.1
  have hE := B.2.2.2.2.2.1.2.2
  have hg := B.2.2.2.2.2.2.1
  refine lv_iload_n hx hb dX10_person_0 rfl (lv_at hl 1 rfl) ?_
  refine z_cS (As := [.int l1]) (rest := []) B hW (f_X10_isKind l) sc_X10_isKind ⟨q309, q310⟩ ⟨Nat.le_of_ble_eq_true rfl, Nat.le_of_ble_eq_true rfl⟩ ⟨Nat.zero_le _, Nat.zero_le _⟩ rfl hl.1 rfl (Nat.le_of_ble_eq_true rfl) dX10_person_1 (fun H locs hW => ?_)
  refine lv_if_ne (tgt := 14) hx hb dX10_person_4 (by decide) (fun c3 => ?_) (fun c3 => ?_)
  · have hf := z_if c3 hf
    refine lv_aload_n hx hb dX10_person_14 rfl (lv_at hl 0 rfl) ?_
    refine z_get_10_0 B hW h0 q257 dX10_person_15 ?_
    refine z_cV (As := []) (rest := []) B hW (f_X3_isFull l (z_g10_0 hg h0)) sc_X3_isFull sv_X10_101 (z_g10_0 hg h0) ⟨Nat.le_of_ble_eq_true rfl, Nat.le_of_ble_eq_true rfl⟩ ⟨Nat.zero_le _, Nat.zero_le _⟩ rfl hl.1 rfl (Nat.le_of_ble_eq_true rfl) dX10_person_18 (fun H locs hW => ?_)
    refine lv_if_eq (tgt := 31) hx hb dX10_person_21 (by decide) (fun c6 => ?_) (fun c6 => ?_)
    · have hf := z_it c6 hf
      refine lv_aload_n hx hb dX10_person_31 rfl (lv_at hl 0 rfl) ?_
      refine z_get_10_0 B hW h0 q257 dX10_person_32 ?_
      refine lv_iload_n hx hb dX10_person_35 rfl (lv_at hl 1 rfl) ?_
      obtain ⟨r7, M8, e9, hf⟩ := z_bpe hf
      refine z_cV (As := [.int l1]) (rest := []) B hW (f_X3_welcome l e9 (z_g10_0 hg h0)) sc_X3_welcome sv_X10_106 (z_g10_0 hg h0) ⟨Nat.le_of_ble_eq_true rfl, Nat.le_of_ble_eq_true rfl⟩ ⟨Nat.zero_le _, Nat.zero_le _⟩ rfl hl.1 rfl (Nat.le_of_ble_eq_true rfl) dX10_person_36 (fun H locs hW => ?_)
      obtain ⟨e1, e2⟩ := z_s2 hf
      subst e1
      subst e2
      exact z_ri B hW dX10_person_39
    · have hf := z_if c6 hf
      refine lv_aload_n hx hb dX10_person_24 rfl (lv_at hl 0 rfl) ?_
      refine lv_ldc hx hb ho (hw _ q316) dX10_person_25 ?_
      obtain ⟨r10, M11, e12, hf⟩ := z_bpe hf
      refine z_cV (As := [.int (-1000000002 : Int32)]) (rest := []) B hW (f_X10_finding l e12 h0) sc_X10_finding sv_X10_72 h0 ⟨Nat.le_of_ble_eq_true rfl, Nat.le_of_ble_eq_true rfl⟩ ⟨Nat.zero_le _, Nat.zero_le _⟩ rfl hl.1 rfl (Nat.le_of_ble_eq_true rfl) dX10_person_27 (fun H locs hW => ?_)
      obtain ⟨e1, e2⟩ := z_s2 hf
      subst e1
      subst e2
      exact z_ri B hW dX10_person_30
  · have hf := z_it c3 hf
    refine lv_aload_n hx hb dX10_person_7 rfl (lv_at hl 0 rfl) ?_
    refine lv_ldc hx hb ho (hw _ q289) dX10_person_8 ?_
    obtain ⟨r13, M14, e15, hf⟩ := z_bpe hf
    refine z_cV (As := [.int (-1000000001 : Int32)]) (rest := []) B hW (f_X10_finding l e15 h0) sc_X10_finding sv_X10_72 h0 ⟨Nat.le_of_ble_eq_true rfl, Nat.le_of_ble_eq_true rfl⟩ ⟨Nat.zero_le _, Nat.zero_le _⟩ rfl hl.1 rfl (Nat.le_of_ble_eq_true rfl) dX10_person_10 (fun H locs hW => ?_)
    obtain ⟨e1, e2⟩ := z_s2 hf
    subst e1
    subst e2
    exact z_ri B hW dX10_person_13
set_option maxHeartbeats 4000000 in
set_option maxRecDepth 100000 in
theorem f_X10_of (l : Launch) {Γ : Zg} {M : Zm} {l0 : Nat} {l1 : Int32} {l2 : Int32} {r : Int32} {M' : Zm} (hf : X10_of Γ M l0 l1 l2 = some (r, M')) (h0 : z_Is Γ 10 l0) : z_Fn l Γ yX10_of cX10_of 4 (some .int) 5 110 [.ref l0, .int l1, .int l2] M (some (.int r)) M' := by
  refine z_Fn.of (by decide) (Nat.le_of_ble_eq_true rfl) ?_
  intro p e s m below meth c ls B hW hl
  have B : z_Bd Γ p s m _ meth c cX10_of 4 (some .int) RX10 := B
  have hl : lv_has ls 4 [(0, .ref l0), (1, .int l1), (2, .int l2)] := hl
  rw [X10_of] at hf
  have hx := B.1
  have hb := B.2.1
  have hml := B.2.2.1
  have ho := B.2.2.2.1
  have hw := B.2.2.2.2.1
  have hE := B.2.2.2.2.2.1.2.2
  have hg := B.2.2.2.2.2.2.1
  refine lv_aload_n hx hb dX10_of_0 rfl (lv_at hl 0 rfl) ?_
  refine z_get_10_0 B hW h0 q257 dX10_of_1 ?_
  refine lv_iload_n hx hb dX10_of_4 rfl (lv_at hl 1 rfl) ?_
  refine z_cV (As := [.int l1]) (rest := []) B hW (f_X3_has l (z_g10_0 hg h0)) sc_X3_has sv_X10_109 (z_g10_0 hg h0) ⟨Nat.le_of_ble_eq_true rfl, Nat.le_of_ble_eq_true rfl⟩ ⟨Nat.zero_le _, Nat.zero_le _⟩ rfl hl.1 rfl (Nat.le_of_ble_eq_true rfl) dX10_of_5 (fun H locs hW => ?_)
  refine lv_if_ne (tgt := 18) hx hb dX10_of_8 (by decide) (fun c3 => ?_) (fun c3 => ?_)
  · have hf := z_if c3 hf
    refine lv_aload_n hx hb dX10_of_18 rfl (lv_at hl 0 rfl) ?_
    refine z_get_10_0 B hW h0 q257 dX10_of_19 ?_
    refine lv_iload_n hx hb dX10_of_22 rfl (lv_at hl 1 rfl) ?_
    obtain ⟨r4, e5, hf⟩ := z_bd hf
    refine z_cV (As := [.int l1]) (rest := []) B hW (f_X3_visitor l e5 (z_g10_0 hg h0)) sc_X3_visitor sv_X10_86 (z_g10_0 hg h0) ⟨Nat.le_of_ble_eq_true rfl, Nat.le_of_ble_eq_true rfl⟩ ⟨Nat.zero_le _, Nat.zero_le _⟩ rfl hl.1 rfl (Nat.le_of_ble_eq_true rfl) dX10_of_23 (fun H locs hW => ?_)
    refine lv_astore_n (lv' := [(3, .ref r4), (0, .ref l0), (1, .int l1), (2, .int l2)]) hx hb dX10_of_26 rfl hl (by decide) rfl (fun ls hl => ?_)
    refine lv_iload_n hx hb dX10_of_27 rfl (lv_at hl 3 rfl) ?_
    by_cases c6 : l2 = (0 : Int32)
    · have hf := z_it c6 hf
      refine lv_tableIn (off := 48) (tgt := 76) hx hb dX10_of_28 (by rw [c6]; decide) (by rw [c6]; decide) (by rw [c6]; decide) (by decide) ?_
      refine lv_aload_n hx hb dX10_of_76 rfl (lv_at hl 0 rfl) ?_
      refine z_getN_8_0 B hW (h_X3_visitor hg e5 (z_g10_0 hg h0)) q150 dX10_of_77 ?_
      obtain ⟨e1, e2⟩ := z_s2 hf
      subst e1
      subst e2
      exact z_ri B hW dX10_of_80
    · have hf := z_if c6 hf
      by_cases c7 : l2 = (1 : Int32)
      · have hf := z_it c7 hf
        refine lv_tableIn (off := 53) (tgt := 81) hx hb dX10_of_28 (by rw [c7]; decide) (by rw [c7]; decide) (by rw [c7]; decide) (by decide) ?_
        refine lv_aload_n hx hb dX10_of_81 rfl (lv_at hl 0 rfl) ?_
        refine z_getN_8_1 B hW (h_X3_visitor hg e5 (z_g10_0 hg h0)) q156 dX10_of_82 ?_
        obtain ⟨e1, e2⟩ := z_s2 hf
        subst e1
        subst e2
        exact z_ri B hW dX10_of_85
      · have hf := z_if c7 hf
        by_cases c8 : l2 = (2 : Int32)
        · have hf := z_it c8 hf
          refine lv_tableIn (off := 58) (tgt := 86) hx hb dX10_of_28 (by rw [c8]; decide) (by rw [c8]; decide) (by rw [c8]; decide) (by decide) ?_
          refine lv_aload_n hx hb dX10_of_86 rfl (lv_at hl 0 rfl) ?_
          refine z_getN_8_2 B hW (h_X3_visitor hg e5 (z_g10_0 hg h0)) q161 dX10_of_87 ?_
          obtain ⟨e1, e2⟩ := z_s2 hf
          subst e1
          subst e2
          exact z_ri B hW dX10_of_90
        · have hf := z_if c8 hf
          by_cases c9 : l2 = (3 : Int32)
          · have hf := z_it c9 hf
            refine lv_tableIn (off := 63) (tgt := 91) hx hb dX10_of_28 (by rw [c9]; decide) (by rw [c9]; decide) (by rw [c9]; decide) (by decide) ?_
            refine lv_aload_n hx hb dX10_of_91 rfl (lv_at hl 0 rfl) ?_
            refine z_getN_8_3 B hW (h_X3_visitor hg e5 (z_g10_0 hg h0)) q164 dX10_of_92 ?_
            obtain ⟨e1, e2⟩ := z_s2 hf
            subst e1
            subst e2
            exact z_ri B hW dX10_of_95
          · have hf := z_if c9 hf
            by_cases c10 : l2 = (4 : Int32)
            · have hf := z_it c10 hf
              refine lv_tableIn (off := 68) (tgt := 96) hx hb dX10_of_28 (by rw [c10]; decide) (by rw [c10]; decide) (by rw [c10]; decide) (by decide) ?_
              refine lv_aload_n hx hb dX10_of_96 rfl (lv_at hl 0 rfl) ?_
              refine z_getN_8_4 B hW (h_X3_visitor hg e5 (z_g10_0 hg h0)) q167 dX10_of_97 ?_
              obtain ⟨e1, e2⟩ := z_s2 hf
              subst e1
              subst e2
              exact z_ri B hW dX10_of_100
            · have hf := z_if c10 hf
              by_cases c11 : l2 = (5 : Int32)
              · have hf := z_it c11 hf
                refine lv_tableIn (off := 73) (tgt := 101) hx hb dX10_of_28 (by rw [c11]; decide) (by rw [c11]; decide) (by rw [c11]; decide) (by decide) ?_
                refine lv_aload_n hx hb dX10_of_101 rfl (lv_at hl 0 rfl) ?_
                refine z_getN_8_5 B hW (h_X3_visitor hg e5 (z_g10_0 hg h0)) q170 dX10_of_102 ?_
                obtain ⟨e1, e2⟩ := z_s2 hf
                subst e1
                subst e2
                exact z_ri B hW dX10_of_105
              · have hf := z_if c11 hf
                by_cases c12 : l2 = (6 : Int32)
                · have hf := z_it c12 hf
                  refine lv_tableIn (off := 78) (tgt := 106) hx hb dX10_of_28 (by rw [c12]; decide) (by rw [c12]; decide) (by rw [c12]; decide) (by decide) ?_
                  refine lv_aload_n hx hb dX10_of_106 rfl (lv_at hl 1 rfl) ?_
                  refine z_get_10_0 B hW h0 q257 dX10_of_107 ?_
                  refine lv_iload_n hx hb dX10_of_110 rfl (lv_at hl 2 rfl) ?_
                  obtain ⟨r13, e14, hf⟩ := z_bd hf
                  refine z_cV (As := [.int l1]) (rest := []) B hW (f_X3_saidBy l e14 (z_g10_0 hg h0)) sc_X3_saidBy sv_X10_124 (z_g10_0 hg h0) ⟨Nat.le_of_ble_eq_true rfl, Nat.le_of_ble_eq_true rfl⟩ ⟨Nat.zero_le _, Nat.zero_le _⟩ rfl hl.1 rfl (Nat.le_of_ble_eq_true rfl) dX10_of_111 (fun H locs hW => ?_)
                  obtain ⟨e1, e2⟩ := z_s2 hf
                  subst e1
                  subst e2
                  exact z_ri B hW dX10_of_114
                · have hf := z_if c12 hf
                  by_cases c15 : l2 = (7 : Int32)
                  · have hf := z_it c15 hf
                    refine lv_tableIn (off := 87) (tgt := 115) hx hb dX10_of_28 (by rw [c15]; decide) (by rw [c15]; decide) (by rw [c15]; decide) (by decide) ?_
                    refine lv_aload_n hx hb dX10_of_115 rfl (lv_at hl 1 rfl) ?_
                    refine z_get_10_0 B hW h0 q257 dX10_of_116 ?_
                    refine lv_iload_n hx hb dX10_of_119 rfl (lv_at hl 2 rfl) ?_
                    obtain ⟨r16, e17, hf⟩ := z_bd hf
                    refine z_cV (As := [.int l1]) (rest := []) B hW (f_X3_stayOf l e17 (z_g10_0 hg h0)) sc_X3_stayOf sv_X10_127 (z_g10_0 hg h0) ⟨Nat.le_of_ble_eq_true rfl, Nat.le_of_ble_eq_true rfl⟩ ⟨Nat.zero_le _, Nat.zero_le _⟩ rfl hl.1 rfl (Nat.le_of_ble_eq_true rfl) dX10_of_120 (fun H locs hW => ?_)
                    obtain ⟨e1, e2⟩ := z_s2 hf
                    subst e1
                    subst e2
                    exact z_ri B hW dX10_of_123
                  · have hf := z_if c15 hf
                    have hsw : l2.toInt < 0 ∨ 7 < l2.toInt := by
                      have ec6 := z_nei 0 (by decide) c6
                      have ec7 := z_nei 1 (by decide) c7
                      have ec8 := z_nei 2 (by decide) c8
                      have ec9 := z_nei 3 (by decide) c9
                      have ec10 := z_nei 4 (by decide) c10
                      have ec11 := z_nei 5 (by decide) c11
                      have ec12 := z_nei 6 (by decide) c12
                      have ec15 := z_nei 7 (by decide) c15
                      omega
                    refine lv_tableOut (tgt := 124) hx hb dX10_of_28 hsw (by decide) ?_
                    refine lv_aload_n hx hb dX10_of_124 rfl (lv_at hl 1 rfl) ?_
                    refine lv_ldc hx hb ho (hw _ q289) dX10_of_125 ?_
                    obtain ⟨r18, M19, e20, hf⟩ := z_bpe hf
                    refine z_cV (As := [.int (-1000000001 : Int32)]) (rest := []) B hW (f_X10_finding l e20 h0) sc_X10_finding sv_X10_72 h0 ⟨Nat.le_of_ble_eq_true rfl, Nat.le_of_ble_eq_true rfl⟩ ⟨Nat.zero_le _, Nat.zero_le _⟩ rfl hl.1 rfl (Nat.le_of_ble_eq_true rfl) dX10_of_127 (fun H locs hW => ?_)
                    obtain ⟨e1, e2⟩ := z_s2 hf
                    subst e1
                    subst e2
                    exact z_ri B hW dX10_of_130
  · have hf := z_it c3 hf
    refine lv_aload_n hx hb dX10_of_11 rfl (lv_at hl 0 rfl) ?_
    refine lv_ldc hx hb ho (hw _ q289) dX10_of_12 ?_
    obtain ⟨r21, M22, e23, hf⟩ := z_bpe hf
    refine z_cV (As := [.int (-1000000001 : Int32)]) (rest := []) B hW (f_X10_finding l e23 h0) sc_X10_finding sv_X10_72 h0 ⟨Nat.le_of_ble_eq_true rfl, Nat.le_of_ble_eq_true rfl⟩ ⟨Nat.zero_le _, Nat.zero_le _⟩ rfl hl.1 rfl (Nat.le_of_ble_eq_true rfl) dX10_of_14 (fun H locs hW => ?_)
    obtain ⟨e1, e2⟩ := z_s2 hf
    subst e1
    subst e2
    exact z_ri B hW dX10_of_17
set_option maxHeartbeats 4000000 in
set_option maxRecDepth 100000 in
theorem f_X10_set (l : Launch) {Γ : Zg} {M : Zm} {l0 : Nat} {l1 : Int32} {l2 : Int32} {l3 : Int32} {r : Int32} {M' : Zm} (hf : X10_set Γ M l0 l1 l2 l3 = some (r, M')) (h0 : z_Is Γ 10 l0) : z_Fn l Γ yX10_set cX10_set 5 (some .int) 1 22 [.ref l0, .int l1, .int l2, .int l3] M (some (.int r)) M' := by
  refine z_Fn.of (by decide) (Nat.le_of_ble_eq_true rfl) ?_
  intro p e s m below meth c ls B hW hl
  have B : z_Bd Γ p s m _ meth c cX10_set 5 (some .int) RX10 := B
  have hl : lv_has ls 5 [(0, .ref l0), (1, .int l1), (2, .int l2), (3, .int l3)] := hl
  rw [X10_set] at hf
  have hx := B.1
  have hb := B.2.1
  have hml := B.2.2.1
  have ho := B.2.2.2.1
  have hw := B.2.2.2.2.1
  have hE := B.2.2.2.2.2.1.2.2
  have hg := B.2.2.2.2.2.2.1
  refine lv_aload_n hx hb dX10_set_0 rfl (lv_at hl 0 rfl) ?_
  refine z_get_10_0 B hW h0 q257 dX10_set_1 ?_
  refine lv_iload_n hx hb dX10_set_4 rfl (lv_at hl 1 rfl) ?_
  refine z_cV (As := [.int l1]) (rest := []) B hW (f_X3_has l (z_g10_0 hg h0)) sc_X3_has sv_X10_109 (z_g10_0 hg h0) ⟨Nat.le_of_ble_eq_true rfl, Nat.le_of_ble_eq_true rfl⟩ ⟨Nat.zero_le _, Nat.zero_le _⟩ rfl hl.1 rfl (Nat.le_of_ble_eq_true rfl) dX10_set_5 (fun H locs hW => ?_)
  refine lv_if_ne (tgt := 18) hx hb dX10_set_8 (by decide) (fun c3 => ?_) (fun c3 => ?_)
  · have hf := z_if c3 hf
    refine lv_aload_n hx hb dX10_set_18 rfl (lv_at hl 0 rfl) ?_
    refine z_get_10_0 B hW h0 q257 dX10_set_19 ?_
    refine lv_iload_n hx hb dX10_set_22 rfl (lv_at hl 1 rfl) ?_
    obtain ⟨r4, e5, hf⟩ := z_bd hf
    refine z_cV (As := [.int l1]) (rest := []) B hW (f_X3_visitor l e5 (z_g10_0 hg h0)) sc_X3_visitor sv_X10_86 (z_g10_0 hg h0) ⟨Nat.le_of_ble_eq_true rfl, Nat.le_of_ble_eq_true rfl⟩ ⟨Nat.zero_le _, Nat.zero_le _⟩ rfl hl.1 rfl (Nat.le_of_ble_eq_true rfl) dX10_set_23 (fun H locs hW => ?_)
    refine lv_astore (lv' := [(4, .ref r4), (0, .ref l0), (1, .int l1), (2, .int l2), (3, .int l3)]) hx hb dX10_set_26 hl (by decide) rfl (fun ls hl => ?_)
    refine lv_iload_n hx hb dX10_set_28 rfl (lv_at hl 3 rfl) ?_
    by_cases c6 : l2 = (1 : Int32)
    · have hf := z_it c6 hf
      refine lv_tableIn (off := 35) (tgt := 64) hx hb dX10_set_29 (by rw [c6]; decide) (by rw [c6]; decide) (by rw [c6]; decide) (by decide) ?_
      refine lv_iload_n hx hb dX10_set_64 rfl (lv_at hl 4 rfl) ?_
      refine z_cS (As := [.int l3]) (rest := []) B hW (f_X10_isSetOfSecrets l) sc_X10_isSetOfSecrets ⟨q286, q287⟩ ⟨Nat.le_of_ble_eq_true rfl, Nat.le_of_ble_eq_true rfl⟩ ⟨Nat.zero_le _, Nat.zero_le _⟩ rfl hl.1 rfl (Nat.le_of_ble_eq_true rfl) dX10_set_65 (fun H locs hW => ?_)
      refine lv_if_eq (tgt := 80) hx hb dX10_set_68 (by decide) (fun c9 => ?_) (fun c9 => ?_)
      · have hf := z_it c9 hf
        refine lv_aload_n hx hb dX10_set_80 rfl (lv_at hl 1 rfl) ?_
        refine lv_ldc hx hb ho (hw _ q289) dX10_set_81 ?_
        obtain ⟨r10, M11, e12, hf⟩ := z_bpe hf
        refine z_cV (As := [.int (-1000000001 : Int32)]) (rest := []) B hW (f_X10_finding l e12 h0) sc_X10_finding sv_X10_72 h0 ⟨Nat.le_of_ble_eq_true rfl, Nat.le_of_ble_eq_true rfl⟩ ⟨Nat.zero_le _, Nat.zero_le _⟩ rfl hl.1 rfl (Nat.le_of_ble_eq_true rfl) dX10_set_83 (fun H locs hW => ?_)
        obtain ⟨e1, e2⟩ := z_s2 hf
        subst e1
        subst e2
        exact z_ri B hW dX10_set_86
      · have hf := z_if c9 hf
        refine lv_aload hx hb dX10_set_71 (lv_at hl 0 rfl) ?_
        refine lv_iload_n hx hb dX10_set_73 rfl (lv_at hl 4 rfl) ?_
        obtain ⟨r13, M14, e15, hf⟩ := z_lpe hf
        refine z_cV (As := [.int l3]) (rest := []) B hW (f_X8_learnJust l e15 (h_X3_visitor hg e5 (z_g10_0 hg h0))) sc_X8_learnJust sv_X10_130 (h_X3_visitor hg e5 (z_g10_0 hg h0)) ⟨Nat.le_of_ble_eq_true rfl, Nat.le_of_ble_eq_true rfl⟩ ⟨Nat.zero_le _, Nat.zero_le _⟩ rfl hl.1 rfl (Nat.le_of_ble_eq_true rfl) dX10_set_74 (fun H locs hW => ?_)
        refine lv_goto (tgt := 86) hx hb dX10_set_77 (by decide) ?_
        obtain ⟨e1, e2⟩ := z_s2 hf
        subst e1
        subst e2
        exact z_ri B hW dX10_set_86
    · have hf := z_if c6 hf
      by_cases c16 : l2 = (2 : Int32)
      · have hf := z_it c16 hf
        refine lv_tableIn (off := 58) (tgt := 87) hx hb dX10_set_29 (by rw [c16]; decide) (by rw [c16]; decide) (by rw [c16]; decide) (by decide) ?_
        refine lv_iload_n hx hb dX10_set_87 rfl (lv_at hl 4 rfl) ?_
        refine z_cS (As := [.int l3]) (rest := []) B hW (f_X10_isSetOfSecrets l) sc_X10_isSetOfSecrets ⟨q286, q287⟩ ⟨Nat.le_of_ble_eq_true rfl, Nat.le_of_ble_eq_true rfl⟩ ⟨Nat.zero_le _, Nat.zero_le _⟩ rfl hl.1 rfl (Nat.le_of_ble_eq_true rfl) dX10_set_88 (fun H locs hW => ?_)
        refine lv_if_eq (tgt := 115) hx hb dX10_set_91 (by decide) (fun c19 => ?_) (fun c19 => ?_)
        · have hf := z_it c19 hf
          refine lv_aload_n hx hb dX10_set_115 rfl (lv_at hl 1 rfl) ?_
          refine lv_ldc hx hb ho (hw _ q289) dX10_set_116 ?_
          obtain ⟨r20, M21, e22, hf⟩ := z_bpe hf
          refine z_cV (As := [.int (-1000000001 : Int32)]) (rest := []) B hW (f_X10_finding l e22 h0) sc_X10_finding sv_X10_72 h0 ⟨Nat.le_of_ble_eq_true rfl, Nat.le_of_ble_eq_true rfl⟩ ⟨Nat.zero_le _, Nat.zero_le _⟩ rfl hl.1 rfl (Nat.le_of_ble_eq_true rfl) dX10_set_118 (fun H locs hW => ?_)
          obtain ⟨e1, e2⟩ := z_s2 hf
          subst e1
          subst e2
          exact z_ri B hW dX10_set_121
        · have hf := z_if c19 hf
          refine lv_iload_n hx hb dX10_set_94 rfl (lv_at hl 4 rfl) ?_
          refine lv_aload hx hb dX10_set_95 (lv_at hl 0 rfl) ?_
          refine z_getN_8_1 B hW (h_X3_visitor hg e5 (z_g10_0 hg h0)) q156 dX10_set_97 ?_
          refine lv_iconst (v := -1) hx hb dX10_set_100 (by decide) ?_
          refine lv_ixor hx hb dX10_set_101 ?_
          refine lv_iand hx hb dX10_set_102 ?_
          refine lv_if_ne (tgt := 115) hx hb dX10_set_103 (by decide) (fun c23 => ?_) (fun c23 => ?_)
          · have hf := z_if c23 hf
            refine lv_aload_n hx hb dX10_set_115 rfl (lv_at hl 1 rfl) ?_
            refine lv_ldc hx hb ho (hw _ q289) dX10_set_116 ?_
            obtain ⟨r24, M25, e26, hf⟩ := z_bpe hf
            refine z_cV (As := [.int (-1000000001 : Int32)]) (rest := []) B hW (f_X10_finding l e26 h0) sc_X10_finding sv_X10_72 h0 ⟨Nat.le_of_ble_eq_true rfl, Nat.le_of_ble_eq_true rfl⟩ ⟨Nat.zero_le _, Nat.zero_le _⟩ rfl hl.1 rfl (Nat.le_of_ble_eq_true rfl) dX10_set_118 (fun H locs hW => ?_)
            obtain ⟨e1, e2⟩ := z_s2 hf
            subst e1
            subst e2
            exact z_ri B hW dX10_set_121
          · have hf := z_it c23 hf
            refine lv_aload hx hb dX10_set_106 (lv_at hl 0 rfl) ?_
            refine lv_iload_n hx hb dX10_set_108 rfl (lv_at hl 4 rfl) ?_
            obtain ⟨r27, M28, e29, hf⟩ := z_lpe hf
            refine z_cV (As := [.int l3]) (rest := []) B hW (f_X8_believeJust l e29 (h_X3_visitor hg e5 (z_g10_0 hg h0))) sc_X8_believeJust sv_X10_133 (h_X3_visitor hg e5 (z_g10_0 hg h0)) ⟨Nat.le_of_ble_eq_true rfl, Nat.le_of_ble_eq_true rfl⟩ ⟨Nat.zero_le _, Nat.zero_le _⟩ rfl hl.1 rfl (Nat.le_of_ble_eq_true rfl) dX10_set_109 (fun H locs hW => ?_)
            refine lv_goto (tgt := 121) hx hb dX10_set_112 (by decide) ?_
            obtain ⟨e1, e2⟩ := z_s2 hf
            subst e1
            subst e2
            exact z_ri B hW dX10_set_121
      · have hf := z_if c16 hf
        by_cases c30 : l2 = (3 : Int32)
        · have hf := z_it c30 hf
          refine lv_tableIn (off := 120) (tgt := 149) hx hb dX10_set_29 (by rw [c30]; decide) (by rw [c30]; decide) (by rw [c30]; decide) (by decide) ?_
          refine lv_aload_n hx hb dX10_set_149 rfl (lv_at hl 1 rfl) ?_
          refine lv_ldc hx hb ho (hw _ q289) dX10_set_150 ?_
          obtain ⟨r31, M32, e33, hf⟩ := z_bpe hf
          refine z_cV (As := [.int (-1000000001 : Int32)]) (rest := []) B hW (f_X10_finding l e33 h0) sc_X10_finding sv_X10_72 h0 ⟨Nat.le_of_ble_eq_true rfl, Nat.le_of_ble_eq_true rfl⟩ ⟨Nat.zero_le _, Nat.zero_le _⟩ rfl hl.1 rfl (Nat.le_of_ble_eq_true rfl) dX10_set_152 (fun H locs hW => ?_)
          obtain ⟨e1, e2⟩ := z_s2 hf
          subst e1
          subst e2
          exact z_ri B hW dX10_set_155
        · have hf := z_if c30 hf
          by_cases c34 : l2 = (4 : Int32)
          · have hf := z_it c34 hf
            refine lv_tableIn (off := 120) (tgt := 149) hx hb dX10_set_29 (by rw [c34]; decide) (by rw [c34]; decide) (by rw [c34]; decide) (by decide) ?_
            refine lv_aload_n hx hb dX10_set_149 rfl (lv_at hl 1 rfl) ?_
            refine lv_ldc hx hb ho (hw _ q289) dX10_set_150 ?_
            obtain ⟨r35, M36, e37, hf⟩ := z_bpe hf
            refine z_cV (As := [.int (-1000000001 : Int32)]) (rest := []) B hW (f_X10_finding l e37 h0) sc_X10_finding sv_X10_72 h0 ⟨Nat.le_of_ble_eq_true rfl, Nat.le_of_ble_eq_true rfl⟩ ⟨Nat.zero_le _, Nat.zero_le _⟩ rfl hl.1 rfl (Nat.le_of_ble_eq_true rfl) dX10_set_152 (fun H locs hW => ?_)
            obtain ⟨e1, e2⟩ := z_s2 hf
            subst e1
            subst e2
            exact z_ri B hW dX10_set_155
          · have hf := z_if c34 hf
            by_cases c38 : l2 = (5 : Int32)
            · have hf := z_it c38 hf
              refine lv_tableIn (off := 93) (tgt := 122) hx hb dX10_set_29 (by rw [c38]; decide) (by rw [c38]; decide) (by rw [c38]; decide) (by decide) ?_
              refine lv_iload_n hx hb dX10_set_122 rfl (lv_at hl 4 rfl) ?_
              refine lv_if_lt (tgt := 142) hx hb dX10_set_123 (by decide) (fun c39 => ?_) (fun c39 => ?_)
              · have hf := z_it c39 hf
                refine lv_aload_n hx hb dX10_set_142 rfl (lv_at hl 1 rfl) ?_
                refine lv_ldc hx hb ho (hw _ q289) dX10_set_143 ?_
                obtain ⟨r40, M41, e42, hf⟩ := z_bpe hf
                refine z_cV (As := [.int (-1000000001 : Int32)]) (rest := []) B hW (f_X10_finding l e42 h0) sc_X10_finding sv_X10_72 h0 ⟨Nat.le_of_ble_eq_true rfl, Nat.le_of_ble_eq_true rfl⟩ ⟨Nat.zero_le _, Nat.zero_le _⟩ rfl hl.1 rfl (Nat.le_of_ble_eq_true rfl) dX10_set_145 (fun H locs hW => ?_)
                obtain ⟨e1, e2⟩ := z_s2 hf
                subst e1
                subst e2
                exact z_ri B hW dX10_set_148
              · have hf := z_if c39 hf
                refine lv_iload_n hx hb dX10_set_126 rfl (lv_at hl 4 rfl) ?_
                refine lv_sipush (v := 9999) hx hb dX10_set_127 (by decide) ?_
                refine lv_icmp_gt (tgt := 142) hx hb dX10_set_130 (by decide) (fun c43 => ?_) (fun c43 => ?_)
                · have hf := z_it c43 hf
                  refine lv_aload_n hx hb dX10_set_142 rfl (lv_at hl 1 rfl) ?_
                  refine lv_ldc hx hb ho (hw _ q289) dX10_set_143 ?_
                  obtain ⟨r44, M45, e46, hf⟩ := z_bpe hf
                  refine z_cV (As := [.int (-1000000001 : Int32)]) (rest := []) B hW (f_X10_finding l e46 h0) sc_X10_finding sv_X10_72 h0 ⟨Nat.le_of_ble_eq_true rfl, Nat.le_of_ble_eq_true rfl⟩ ⟨Nat.zero_le _, Nat.zero_le _⟩ rfl hl.1 rfl (Nat.le_of_ble_eq_true rfl) dX10_set_145 (fun H locs hW => ?_)
                  obtain ⟨e1, e2⟩ := z_s2 hf
                  subst e1
                  subst e2
                  exact z_ri B hW dX10_set_148
                · have hf := z_if c43 hf
                  refine lv_aload hx hb dX10_set_133 (lv_at hl 0 rfl) ?_
                  refine lv_iload_n hx hb dX10_set_135 rfl (lv_at hl 4 rfl) ?_
                  obtain ⟨r47, M48, e49, hf⟩ := z_lpe hf
                  refine z_cV (As := [.int l3]) (rest := []) B hW (f_X8_haveHeard l e49 (h_X3_visitor hg e5 (z_g10_0 hg h0))) sc_X8_haveHeard sv_X10_136 (h_X3_visitor hg e5 (z_g10_0 hg h0)) ⟨Nat.le_of_ble_eq_true rfl, Nat.le_of_ble_eq_true rfl⟩ ⟨Nat.zero_le _, Nat.zero_le _⟩ rfl hl.1 rfl (Nat.le_of_ble_eq_true rfl) dX10_set_136 (fun H locs hW => ?_)
                  refine lv_goto (tgt := 148) hx hb dX10_set_139 (by decide) ?_
                  obtain ⟨e1, e2⟩ := z_s2 hf
                  subst e1
                  subst e2
                  exact z_ri B hW dX10_set_148
            · have hf := z_if c38 hf
              have hsw : l2.toInt < 1 ∨ 5 < l2.toInt := by
                have ec6 := z_nei 1 (by decide) c6
                have ec16 := z_nei 2 (by decide) c16
                have ec30 := z_nei 3 (by decide) c30
                have ec34 := z_nei 4 (by decide) c34
                have ec38 := z_nei 5 (by decide) c38
                omega
              refine lv_tableOut (tgt := 149) hx hb dX10_set_29 hsw (by decide) ?_
              refine lv_aload_n hx hb dX10_set_149 rfl (lv_at hl 1 rfl) ?_
              refine lv_ldc hx hb ho (hw _ q289) dX10_set_150 ?_
              obtain ⟨r50, M51, e52, hf⟩ := z_bpe hf
              refine z_cV (As := [.int (-1000000001 : Int32)]) (rest := []) B hW (f_X10_finding l e52 h0) sc_X10_finding sv_X10_72 h0 ⟨Nat.le_of_ble_eq_true rfl, Nat.le_of_ble_eq_true rfl⟩ ⟨Nat.zero_le _, Nat.zero_le _⟩ rfl hl.1 rfl (Nat.le_of_ble_eq_true rfl) dX10_set_152 (fun H locs hW => ?_)
              obtain ⟨e1, e2⟩ := z_s2 hf
              subst e1
              subst e2
              exact z_ri B hW dX10_set_155
  · have hf := z_it c3 hf
    refine lv_aload_n hx hb dX10_set_11 rfl (lv_at hl 0 rfl) ?_
    refine lv_ldc hx hb ho (hw _ q289) dX10_set_12 ?_
    obtain ⟨r53, M54, e55, hf⟩ := z_bpe hf
    refine z_cV (As := [.int (-1000000001 : Int32)]) (rest := []) B hW (f_X10_finding l e55 h0) sc_X10_finding sv_X10_72 h0 ⟨Nat.le_of_ble_eq_true rfl, Nat.le_of_ble_eq_true rfl⟩ ⟨Nat.zero_le _, Nat.zero_le _⟩ rfl hl.1 rfl (Nat.le_of_ble_eq_true rfl) dX10_set_14 (fun H locs hW => ?_)
    obtain ⟨e1, e2⟩ := z_s2 hf
    subst e1
    subst e2
    exact z_ri B hW dX10_set_17
set_option maxHeartbeats 4000000 in
set_option maxRecDepth 100000 in
theorem f_X10_turn (l : Launch) {Γ : Zg} {M : Zm} {l0 : Nat} {l1 : Int32} {l2 : Int32} {r : Int32} {M' : Zm} (hf : X10_turn Γ M l0 l1 l2 = some (r, M')) (h0 : z_Is Γ 10 l0) : z_Fn l Γ yX10_turn cX10_turn 5 (some .int) 1 22 [.ref l0, .int l1, .int l2] M (some (.int r)) M' := by
  refine z_Fn.of (by decide) (Nat.le_of_ble_eq_true rfl) ?_
  intro p e s m below meth c ls B hW hl
  have B : z_Bd Γ p s m _ meth c cX10_turn 5 (some .int) RX10 := B
  have hl : lv_has ls 5 [(0, .ref l0), (1, .int l1), (2, .int l2)] := hl
  rw [X10_turn] at hf
  have hx := B.1
  have hb := B.2.1
  have hml := B.2.2.1
  have ho := B.2.2.2.1
  have hw := B.2.2.2.2.1
  have hE := B.2.2.2.2.2.1.2.2
  have hg := B.2.2.2.2.2.2.1
  refine lv_aload_n hx hb dX10_turn_0 rfl (lv_at hl 0 rfl) ?_
  refine z_get_10_0 B hW h0 q257 dX10_turn_1 ?_
  refine lv_iload_n hx hb dX10_turn_4 rfl (lv_at hl 1 rfl) ?_
  refine z_cV (As := [.int l1]) (rest := []) B hW (f_X3_has l (z_g10_0 hg h0)) sc_X3_has sv_X10_109 (z_g10_0 hg h0) ⟨Nat.le_of_ble_eq_true rfl, Nat.le_of_ble_eq_true rfl⟩ ⟨Nat.zero_le _, Nat.zero_le _⟩ rfl hl.1 rfl (Nat.le_of_ble_eq_true rfl) dX10_turn_5 (fun H locs hW => ?_)
  refine lv_if_eq (tgt := 18) hx hb dX10_turn_8 (by decide) (fun c3 => ?_) (fun c3 => ?_)
  · have hf := z_it c3 hf
    refine lv_aload_n hx hb dX10_turn_18 rfl (lv_at hl 0 rfl) ?_
    refine lv_ldc hx hb ho (hw _ q289) dX10_turn_19 ?_
    obtain ⟨r4, M5, e6, hf⟩ := z_bpe hf
    refine z_cV (As := [.int (-1000000001 : Int32)]) (rest := []) B hW (f_X10_finding l e6 h0) sc_X10_finding sv_X10_72 h0 ⟨Nat.le_of_ble_eq_true rfl, Nat.le_of_ble_eq_true rfl⟩ ⟨Nat.zero_le _, Nat.zero_le _⟩ rfl hl.1 rfl (Nat.le_of_ble_eq_true rfl) dX10_turn_21 (fun H locs hW => ?_)
    obtain ⟨e1, e2⟩ := z_s2 hf
    subst e1
    subst e2
    exact z_ri B hW dX10_turn_24
  · have hf := z_if c3 hf
    refine lv_iload_n hx hb dX10_turn_11 rfl (lv_at hl 2 rfl) ?_
    refine z_cS (As := [.int l2]) (rest := []) B hW (f_X10_isKind l) sc_X10_isKind ⟨q309, q310⟩ ⟨Nat.le_of_ble_eq_true rfl, Nat.le_of_ble_eq_true rfl⟩ ⟨Nat.zero_le _, Nat.zero_le _⟩ rfl hl.1 rfl (Nat.le_of_ble_eq_true rfl) dX10_turn_12 (fun H locs hW => ?_)
    refine lv_if_ne (tgt := 25) hx hb dX10_turn_15 (by decide) (fun c9 => ?_) (fun c9 => ?_)
    · have hf := z_if c9 hf
      refine lv_aload_n hx hb dX10_turn_25 rfl (lv_at hl 0 rfl) ?_
      refine z_get_10_0 B hW h0 q257 dX10_turn_26 ?_
      refine lv_iload_n hx hb dX10_turn_29 rfl (lv_at hl 1 rfl) ?_
      obtain ⟨r10, e11, hf⟩ := z_bd hf
      refine z_cV (As := [.int l1]) (rest := []) B hW (f_X3_visitor l e11 (z_g10_0 hg h0)) sc_X3_visitor sv_X10_86 (z_g10_0 hg h0) ⟨Nat.le_of_ble_eq_true rfl, Nat.le_of_ble_eq_true rfl⟩ ⟨Nat.zero_le _, Nat.zero_le _⟩ rfl hl.1 rfl (Nat.le_of_ble_eq_true rfl) dX10_turn_30 (fun H locs hW => ?_)
      refine lv_astore_n (lv' := [(3, .ref r10), (0, .ref l0), (1, .int l1), (2, .int l2)]) hx hb dX10_turn_33 rfl hl (by decide) rfl (fun ls hl => ?_)
      refine lv_aload_n hx hb dX10_turn_34 rfl (lv_at hl 0 rfl) ?_
      refine z_getN_8_0 B hW (h_X3_visitor hg e11 (z_g10_0 hg h0)) q150 dX10_turn_35 ?_
      refine lv_istore (lv' := [(4, .int (M.1 r10 0)), (3, .ref r10), (0, .ref l0), (1, .int l1), (2, .int l2)]) hx hb dX10_turn_38 hl (by decide) rfl (fun ls hl => ?_)
      refine lv_aload_n hx hb dX10_turn_40 rfl (lv_at hl 1 rfl) ?_
      refine lv_iload_n hx hb dX10_turn_41 rfl (lv_at hl 4 rfl) ?_
      refine z_putN_8_0 B hW (h_X3_visitor hg e11 (z_g10_0 hg h0)) q150 dX10_turn_42 (fun H locs hW => ?_)
      obtain ⟨M12, e13, hf⟩ := z_le hf
      have hW := z_wde e13 hW
      refine lv_iload hx hb dX10_turn_45 (lv_at hl 0 rfl) ?_
      obtain ⟨e1, e2⟩ := z_s2 hf
      subst e1
      subst e2
      exact z_ri B hW dX10_turn_47
    · have hf := z_it c9 hf
      refine lv_aload_n hx hb dX10_turn_18 rfl (lv_at hl 0 rfl) ?_
      refine lv_ldc hx hb ho (hw _ q289) dX10_turn_19 ?_
      obtain ⟨r14, M15, e16, hf⟩ := z_bpe hf
      refine z_cV (As := [.int (-1000000001 : Int32)]) (rest := []) B hW (f_X10_finding l e16 h0) sc_X10_finding sv_X10_72 h0 ⟨Nat.le_of_ble_eq_true rfl, Nat.le_of_ble_eq_true rfl⟩ ⟨Nat.zero_le _, Nat.zero_le _⟩ rfl hl.1 rfl (Nat.le_of_ble_eq_true rfl) dX10_turn_21 (fun H locs hW => ?_)
      obtain ⟨e1, e2⟩ := z_s2 hf
      subst e1
      subst e2
      exact z_ri B hW dX10_turn_24
set_option maxHeartbeats 4000000 in
set_option maxRecDepth 100000 in
theorem w_X10_isUnder_P4 (B : z_Bd Γ p s m args meth c cX10_isUnder 4 (some .boolean) RX10) : ∀ (n : Nat) (M : Zm) (l1 : Int32) (l2 : Int32) (l3 : Int32) (r : Int32), X10_isUnder_P4 n l1 l2 l3 = some r → ∀ (H : Heap) (locs : List Loc) (ls : Array Slot), z_Wd Γ M s.heap H locs → lv_has ls 4 [(1, .int l1), (2, .int l2), (3, .int l3)] → W p l e (z_rm 1 20) s m args below meth c H locs 0 0 (z_Q Γ below args s (some (.int r)) M) (F0 m 4 ls []) := by
  have hx := B.1
  have hb := B.2.1
  have hml := B.2.2.1
  have ho := B.2.2.2.1
  have hw := B.2.2.2.2.1
  have hE := B.2.2.2.2.2.1.2.2
  have hg := B.2.2.2.2.2.2.1
  intro n
  induction n with
  | zero =>
    intro M l1 l2 l3 r hf  H locs ls hW hl
    cases hf
  | succ n ih =>
    intro M l1 l2 l3 r hf  H locs ls hW hl
    rw [X10_isUnder_P4] at hf
    refine lv_iload_n hx hb dX10_isUnder_4 rfl (lv_at hl 2 rfl) ?_
    refine lv_bipush (v := 6) hx hb dX10_isUnder_5 (by decide) ?_
    refine lv_icmp_ge (tgt := 36) hx hb dX10_isUnder_7 (by decide) (fun c1 => ?_) (fun c1 => ?_)
    · have hf := z_it c1 hf
      refine lv_iconst (v := 0) hx hb dX10_isUnder_36 (by decide) ?_
      have hf := Option.some.inj hf
      subst hf
      exact z_rz B hW (Or.inl rfl) dX10_isUnder_37
    · have hf := z_if c1 hf
      refine lv_iload_n hx hb dX10_isUnder_10 rfl (lv_at hl 1 rfl) ?_
      refine z_cS (As := [.int l2]) (rest := []) B hW (f_X10_isKind l) sc_X10_isKind ⟨q309, q310⟩ ⟨Nat.le_of_ble_eq_true rfl, Nat.le_of_ble_eq_true rfl⟩ ⟨Nat.zero_le _, Nat.zero_le _⟩ rfl hl.1 rfl (Nat.le_of_ble_eq_true rfl) dX10_isUnder_11 (fun H locs hW => ?_)
      refine lv_if_eq (tgt := 36) hx hb dX10_isUnder_14 (by decide) (fun c4 => ?_) (fun c4 => ?_)
      · have hf := z_it c4 hf
        refine lv_iconst (v := 0) hx hb dX10_isUnder_36 (by decide) ?_
        have hf := Option.some.inj hf
        subst hf
        exact z_rz B hW (Or.inl rfl) dX10_isUnder_37
      · have hf := z_if c4 hf
        refine lv_iload_n hx hb dX10_isUnder_17 rfl (lv_at hl 1 rfl) ?_
        refine lv_iload_n hx hb dX10_isUnder_18 rfl (lv_at hl 0 rfl) ?_
        refine lv_icmp_ne (tgt := 24) hx hb dX10_isUnder_19 (by decide) (fun c5 => ?_) (fun c5 => ?_)
        · have hf := z_if c5 hf
          refine va_gets hx hb hE.2.2.2.1 hW.2.2 ho (hw _ q445) (fun _ h => h) dX10_isUnder_24 ?_
          refine lv_iload_n hx hb dX10_isUnder_27 rfl (lv_at hl 1 rfl) ?_
          obtain ⟨g6, hf⟩ := z_gd hf
          refine va_ti hx hb hE.2.2.2.2.1 hW.2.2 g6 rfl dX10_isUnder_28 ?_
          refine lv_istore_n (lv' := [(2, .int (z_ab.getD l2.toNatClampNeg 0)), (1, .int l1), (3, .int l3)]) hx hb dX10_isUnder_29 rfl hl (by decide) rfl (fun ls hl => ?_)
          refine lv_iinc (v := l3 + (1 : Int32)) (lv' := [(3, .int (l3 + (1 : Int32))), (2, .int (z_ab.getD l2.toNatClampNeg 0)), (1, .int l1)]) hx hb dX10_isUnder_30 hl (k := 2) rfl rfl (by decide) rfl (fun ls hl => ?_)
          refine lv_goto (tgt := 4) hx hb dX10_isUnder_33 (by decide) ?_
          exact ih M l1 (z_ab.getD l2.toNatClampNeg 0) (l3 + (1 : Int32)) _ hf  _ _ _ hW (lv_sub hl [2, 1, 0] rfl)
        · have hf := z_it c5 hf
          refine lv_iconst (v := 1) hx hb dX10_isUnder_22 (by decide) ?_
          have hf := Option.some.inj hf
          subst hf
          exact z_rz B hW (Or.inr rfl) dX10_isUnder_23
set_option maxHeartbeats 4000000 in
set_option maxRecDepth 100000 in
theorem f_X10_isUnder (l : Launch) {Γ : Zg} {M : Zm} {l0 : Int32} {l1 : Int32} {r : Int32} (hf : X10_isUnder l0 l1 = some r)  : z_Fn l Γ yX10_isUnder cX10_isUnder 4 (some .boolean) 1 20 [.int l0, .int l1] M (some (.int r)) M := by
  refine z_Fn.of (by decide) (Nat.le_of_ble_eq_true rfl) ?_
  intro p e s m below meth c ls B hW hl
  have B : z_Bd Γ p s m _ meth c cX10_isUnder 4 (some .boolean) RX10 := B
  have hl : lv_has ls 4 [(0, .int l0), (1, .int l1)] := hl
  rw [X10_isUnder] at hf
  have hx := B.1
  have hb := B.2.1
  have hml := B.2.2.1
  have ho := B.2.2.2.1
  have hw := B.2.2.2.2.1
  have hE := B.2.2.2.2.2.1.2.2
  have hg := B.2.2.2.2.2.2.1
  refine lv_iload_n hx hb dX10_isUnder_0 rfl (lv_at hl 0 rfl) ?_
  refine lv_istore_n (lv' := [(2, .int l0), (0, .int l0), (1, .int l1)]) hx hb dX10_isUnder_1 rfl hl (by decide) rfl (fun ls hl => ?_)
  refine lv_iconst (v := 0) hx hb dX10_isUnder_2 (by decide) ?_
  refine lv_istore_n (lv' := [(3, .int (0 : Int32)), (2, .int l0), (0, .int l0), (1, .int l1)]) hx hb dX10_isUnder_3 rfl hl (by decide) rfl (fun ls hl => ?_)
  exact w_X10_isUnder_P4 B 1000 M l1 l0 (0 : Int32) _ hf  _ _ _ hW (lv_sub hl [3, 1, 0] rfl)
set_option maxHeartbeats 4000000 in
set_option maxRecDepth 100000 in
theorem f_X10_as (l : Launch) {Γ : Zg} {M : Zm} {l0 : Nat} {l1 : Int32} {l2 : Int32} {r : Int32} {M' : Zm} (hf : X10_as Γ M l0 l1 l2 = some (r, M')) (h0 : z_Is Γ 10 l0) : z_Fn l Γ yX10_as cX10_as 4 (some .int) 2 43 [.ref l0, .int l1, .int l2] M (some (.int r)) M' := by
  refine z_Fn.of (by decide) (Nat.le_of_ble_eq_true rfl) ?_
  intro p e s m below meth c ls B hW hl
  have B : z_Bd Γ p s m _ meth c cX10_as 4 (some .int) RX10 := B
  have hl : lv_has ls 4 [(0, .ref l0), (1, .int l1), (2, .int l2)] := hl
  rw [X10_as] at hf
  have hx := B.1
  have hb := B.2.1
  have hml := B.2.2.1
  have ho := B.2.2.2.1
  have hw := B.2.2.2.2.1
  have hE := B.2.2.2.2.2.1.2.2
  have hg := B.2.2.2.2.2.2.1
  refine lv_aload_n hx hb dX10_as_0 rfl (lv_at hl 0 rfl) ?_
  refine z_get_10_0 B hW h0 q257 dX10_as_1 ?_
  refine lv_iload_n hx hb dX10_as_4 rfl (lv_at hl 1 rfl) ?_
  refine z_cV (As := [.int l1]) (rest := []) B hW (f_X3_has l (z_g10_0 hg h0)) sc_X3_has sv_X10_109 (z_g10_0 hg h0) ⟨Nat.le_of_ble_eq_true rfl, Nat.le_of_ble_eq_true rfl⟩ ⟨Nat.zero_le _, Nat.zero_le _⟩ rfl hl.1 rfl (Nat.le_of_ble_eq_true rfl) dX10_as_5 (fun H locs hW => ?_)
  refine lv_if_eq (tgt := 18) hx hb dX10_as_8 (by decide) (fun c3 => ?_) (fun c3 => ?_)
  · have hf := z_it c3 hf
    refine lv_aload_n hx hb dX10_as_18 rfl (lv_at hl 0 rfl) ?_
    refine lv_ldc hx hb ho (hw _ q289) dX10_as_19 ?_
    obtain ⟨r4, M5, e6, hf⟩ := z_bpe hf
    refine z_cV (As := [.int (-1000000001 : Int32)]) (rest := []) B hW (f_X10_finding l e6 h0) sc_X10_finding sv_X10_72 h0 ⟨Nat.le_of_ble_eq_true rfl, Nat.le_of_ble_eq_true rfl⟩ ⟨Nat.zero_le _, Nat.zero_le _⟩ rfl hl.1 rfl (Nat.le_of_ble_eq_true rfl) dX10_as_21 (fun H locs hW => ?_)
    obtain ⟨e1, e2⟩ := z_s2 hf
    subst e1
    subst e2
    exact z_ri B hW dX10_as_24
  · have hf := z_if c3 hf
    refine lv_iload_n hx hb dX10_as_11 rfl (lv_at hl 2 rfl) ?_
    refine z_cS (As := [.int l2]) (rest := []) B hW (f_X10_isKind l) sc_X10_isKind ⟨q309, q310⟩ ⟨Nat.le_of_ble_eq_true rfl, Nat.le_of_ble_eq_true rfl⟩ ⟨Nat.zero_le _, Nat.zero_le _⟩ rfl hl.1 rfl (Nat.le_of_ble_eq_true rfl) dX10_as_12 (fun H locs hW => ?_)
    refine lv_if_ne (tgt := 25) hx hb dX10_as_15 (by decide) (fun c9 => ?_) (fun c9 => ?_)
    · have hf := z_if c9 hf
      refine lv_aload_n hx hb dX10_as_25 rfl (lv_at hl 0 rfl) ?_
      refine z_get_10_0 B hW h0 q257 dX10_as_26 ?_
      refine lv_iload_n hx hb dX10_as_29 rfl (lv_at hl 1 rfl) ?_
      obtain ⟨r10, e11, hf⟩ := z_bd hf
      refine z_cV (As := [.int l1]) (rest := []) B hW (f_X3_visitor l e11 (z_g10_0 hg h0)) sc_X3_visitor sv_X10_86 (z_g10_0 hg h0) ⟨Nat.le_of_ble_eq_true rfl, Nat.le_of_ble_eq_true rfl⟩ ⟨Nat.zero_le _, Nat.zero_le _⟩ rfl hl.1 rfl (Nat.le_of_ble_eq_true rfl) dX10_as_30 (fun H locs hW => ?_)
      refine lv_astore_n (lv' := [(3, .ref r10), (0, .ref l0), (1, .int l1), (2, .int l2)]) hx hb dX10_as_33 rfl hl (by decide) rfl (fun ls hl => ?_)
      refine lv_aload_n hx hb dX10_as_34 rfl (lv_at hl 0 rfl) ?_
      refine z_getN_8_0 B hW (h_X3_visitor hg e11 (z_g10_0 hg h0)) q150 dX10_as_35 ?_
      refine lv_iload_n hx hb dX10_as_38 rfl (lv_at hl 3 rfl) ?_
      obtain ⟨r12, e13, hf⟩ := z_bd hf
      refine z_cS (As := [.int (M.1 r10 0), .int l2]) (rest := []) B hW (f_X10_isUnder l e13) sc_X10_isUnder ⟨q442, q443⟩ ⟨Nat.le_of_ble_eq_true rfl, Nat.le_of_ble_eq_true rfl⟩ ⟨Nat.zero_le _, Nat.zero_le _⟩ rfl hl.1 rfl (Nat.le_of_ble_eq_true rfl) dX10_as_39 (fun H locs hW => ?_)
      refine lv_if_eq (tgt := 52) hx hb dX10_as_42 (by decide) (fun c14 => ?_) (fun c14 => ?_)
      · have hf := z_it c14 hf
        refine lv_aload_n hx hb dX10_as_52 rfl (lv_at hl 1 rfl) ?_
        refine lv_ldc hx hb ho (hw _ q447) dX10_as_53 ?_
        obtain ⟨r15, M16, e17, hf⟩ := z_bpe hf
        refine z_cV (As := [.int (-1000000003 : Int32)]) (rest := []) B hW (f_X10_finding l e17 h0) sc_X10_finding sv_X10_72 h0 ⟨Nat.le_of_ble_eq_true rfl, Nat.le_of_ble_eq_true rfl⟩ ⟨Nat.zero_le _, Nat.zero_le _⟩ rfl hl.1 rfl (Nat.le_of_ble_eq_true rfl) dX10_as_55 (fun H locs hW => ?_)
        obtain ⟨e1, e2⟩ := z_s2 hf
        subst e1
        subst e2
        exact z_ri B hW dX10_as_58
      · have hf := z_if c14 hf
        refine lv_aload_n hx hb dX10_as_45 rfl (lv_at hl 0 rfl) ?_
        refine z_getN_8_5 B hW (h_X3_visitor hg e11 (z_g10_0 hg h0)) q170 dX10_as_46 ?_
        refine lv_goto (tgt := 58) hx hb dX10_as_49 (by decide) ?_
        obtain ⟨e1, e2⟩ := z_s2 hf
        subst e1
        subst e2
        exact z_ri B hW dX10_as_58
    · have hf := z_it c9 hf
      refine lv_aload_n hx hb dX10_as_18 rfl (lv_at hl 0 rfl) ?_
      refine lv_ldc hx hb ho (hw _ q289) dX10_as_19 ?_
      obtain ⟨r18, M19, e20, hf⟩ := z_bpe hf
      refine z_cV (As := [.int (-1000000001 : Int32)]) (rest := []) B hW (f_X10_finding l e20 h0) sc_X10_finding sv_X10_72 h0 ⟨Nat.le_of_ble_eq_true rfl, Nat.le_of_ble_eq_true rfl⟩ ⟨Nat.zero_le _, Nat.zero_le _⟩ rfl hl.1 rfl (Nat.le_of_ble_eq_true rfl) dX10_as_21 (fun H locs hW => ?_)
      obtain ⟨e1, e2⟩ := z_s2 hf
      subst e1
      subst e2
      exact z_ri B hW dX10_as_24
end
