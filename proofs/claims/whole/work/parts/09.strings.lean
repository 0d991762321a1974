theorem z_lk2 {x : Int} (h1 : x ≠ 8) (h2 : x ≠ 16) : Op.lookupswitch.offset (#[(8, 28), (16, 33)] : Array (Int × Int)).toList 38 x = 38 := by
  simp [Op.lookupswitch.offset, Ne.symm h1, Ne.symm h2]
theorem h_X3_visitor {Γ : Zg} (hg : z_Gk Γ) {l0 : Nat} {l1 : Int32} {r : Nat} (e : X3_visitor Γ l0 l1 = some r) (h0 : z_Is Γ 3 l0) : z_Is Γ 8 r := by
  rw [X3_visitor] at e
  obtain ⟨g, e⟩ := z_gd e
  cases e
  exact z_g16 hg (z_g3_1 hg h0) g
theorem h_X7_nameOf (x : Int32) : X7_nameOf x < 10 := by
  unfold X7_nameOf
  repeat' split
  all_goals decide
section ZSTR
variable {p : Program} {l : Launch} {e : Env} {R : Room} {s : State} {m : MethodId} {args : Array Value} {below : List Frame} {meth : Method} {c : Code} {H : Heap} {locs : List Loc} {cells slots : Nat} {Q : State → Prop} {cc : ByteArray} {pc : Nat} {ls : Array Slot} {rest : List Value} {Γ : Zg} {M : Zm} {mL : Nat} {ret : Option FieldType} {own : String}
theorem z_cVs (B : z_Bd Γ p s m args meth c cc mL ret own) (hW : z_Wd Γ M s.heap H locs) {y : MethodName} {c2 : ByteArray} {mL2 fr lo n idx : Nat} {ret2 : Option FieldType} {As : List Value} {o : Option Value} {M' : Zm} {st : List Value} {k : Nat} (hF : z_Fn l Γ y c2 mL2 ret2 fr lo (.ref (z_sK Γ k) :: As) M o M') (hs : z_Sc y c2 mL2 ret2 n) (hv : Cond.methodLink own idx y ∈ BIG ∧ Cond.instanceMethod y ∈ BIG ∧ Cond.selects "java/lang/String" y y ∈ BIG) (hb : k < 10) (hR : fr + 1 ≤ R.frames ∧ 8 + (mL2 + 11) + lo ≤ R.locals) (hcs : cells ≤ R.cells ∧ slots ≤ R.slots) (hn : As.length = n) (hsz : ls.size = mL) (hst : st = As.reverse ++ .ref (z_sK Γ k) :: rest) (hrm : (rest.map fun v => v.category).sum ≤ 8) (hdg : decode cc pc = .ok (.invokevirtual idx, 3)) (kk : ∀ (H1 : Heap) (locs1 : List Loc), z_Wd Γ M' s.heap H1 locs1 → W p l e R s m args below meth c H1 locs1 cells slots Q (F0 m (pc + 3) ls (o.toList ++ rest))) : W p l e R s m args below meth c H locs cells slots Q (F0 m pc ls (st)) := by
  refine z_go (va_runV (C := "java/lang/String") ⟨B.1, B.2.1, B.2.2.1, B.2.2.2.1, B.2.2.2.2.1⟩ hF ⟨callB_of n B.2.2.2.2.1 (z_good hs.2.1) rfl rfl rfl (B.2.2.2.2.1 _ hs.1) (B.2.2.2.2.1 _ hv.1) hs.2.2 hR, B.2.2.2.2.1 _ hv.2.1, B.2.2.2.2.1 _ hv.2.2⟩ ⟨z_blind, vk_recv B.2.2.2.2.2.1.2.2.1 hb hW.2.2, fun U hU hw => ⟨rfl, by rw [hU]; exact hW.1, hW.2.1, B.2.2.2.2.2.1.pass hW.2.2 hU hw, B.2.2.2.2.2.2.1⟩⟩ rfl hn hsz hst (lv_room hrm) hdg hcs) hW kk
end ZSTR
theorem sc_J0_coder_7d493 : z_Sc yJ0_coder_7d493 cJ0_coder_7d493 1 (some .byte) 0 := ⟨q80, q697, by decide +kernel⟩
theorem sc_J0_isLatin1_aae02 : z_Sc yJ0_isLatin1_aae02 cJ0_isLatin1_aae02 1 (some .boolean) 0 := ⟨q80, q707, by decide +kernel⟩
theorem sc_J1_charAt_3b067 : z_Sc yJ1_charAt_3b067 cJ1_charAt_3b067 2 (some .char) 2 := ⟨q81, q710, by decide +kernel⟩
theorem sc_J0_checkIndex_df160 : z_Sc yJ0_checkIndex_df160 cJ0_checkIndex_df160 2 none 2 := ⟨q80, q713, by decide +kernel⟩
theorem sc_J3_checkIndex_8e157 : z_Sc yJ3_checkIndex_8e157 cJ3_checkIndex_8e157 3 (some .int) 3 := ⟨q82, q718, by decide +kernel⟩
theorem f_J0_coder_7d493 (l : Launch) {Γ : Zg} {M : Zm} {l0 : Nat} (h0 : l0 < 10) : z_Fn l Γ yJ0_coder_7d493 cJ0_coder_7d493 1 (some .byte) 0 0 [.ref (z_sK Γ l0)] M (some (.int 0)) M := by
  refine z_Fn.of (by decide) (Nat.le_of_ble_eq_true rfl) ?_
  intro p e s m below meth c ls B hW hl
  have B : z_Bd Γ p s m _ meth c cJ0_coder_7d493 1 (some .byte) RJ0 := B
  have hl : lv_has ls 1 [(0, .ref (z_sK Γ l0))] := hl
  have hx := B.1
  have hb := B.2.1
  have ho := B.2.2.2.1
  have hw := B.2.2.2.2.1
  have hE := B.2.2.2.2.2.1.2.2
  refine va_gets hx hb hE.2.2.1 hW.2.2 ho (hw _ q698) (fun _ h => h) dJ0_coder_7d493_0 ?_
  refine lv_if_eq (tgt := 13) hx hb dJ0_coder_7d493_3 (by decide) (fun c1 => absurd c1 (by decide)) (fun c1 => ?_)
  refine lv_aload_n hx hb dJ0_coder_7d493_6 rfl (lv_at hl 0 rfl) ?_
  refine vk_getf hx hb (hE.1.1 l0 h0).2.1 hW.2.2 ho (hw _ q1278) (fun _ h => h) dJ0_coder_7d493_7 ?_
  refine lv_goto (tgt := 14) hx hb dJ0_coder_7d493_10 (by decide) ?_
  exact z_rn B hW (by decide) dJ0_coder_7d493_14
theorem f_J0_isLatin1_aae02 (l : Launch) {Γ : Zg} {M : Zm} {l0 : Nat} (h0 : l0 < 10) : z_Fn l Γ yJ0_isLatin1_aae02 cJ0_isLatin1_aae02 1 (some .boolean) 0 0 [.ref (z_sK Γ l0)] M (some (.int 1)) M := by
  refine z_Fn.of (by decide) (Nat.le_of_ble_eq_true rfl) ?_
  intro p e s m below meth c ls B hW hl
  have B : z_Bd Γ p s m _ meth c cJ0_isLatin1_aae02 1 (some .boolean) RJ0 := B
  have hl : lv_has ls 1 [(0, .ref (z_sK Γ l0))] := hl
  have hx := B.1
  have hb := B.2.1
  have ho := B.2.2.2.1
  have hw := B.2.2.2.2.1
  have hE := B.2.2.2.2.2.1.2.2
  refine va_gets hx hb hE.2.2.1 hW.2.2 ho (hw _ q698) (fun _ h => h) dJ0_isLatin1_aae02_0 ?_
  refine lv_if_eq (tgt := 17) hx hb dJ0_isLatin1_aae02_3 (by decide) (fun c1 => absurd c1 (by decide)) (fun c1 => ?_)
  refine lv_aload_n hx hb dJ0_isLatin1_aae02_6 rfl (lv_at hl 0 rfl) ?_
  refine vk_getf hx hb (hE.1.1 l0 h0).2.1 hW.2.2 ho (hw _ q1278) (fun _ h => h) dJ0_isLatin1_aae02_7 ?_
  refine lv_if_ne (tgt := 17) hx hb dJ0_isLatin1_aae02_10 (by decide) (fun c1 => absurd rfl c1) (fun c1 => ?_)
  refine lv_iconst (v := 1) hx hb dJ0_isLatin1_aae02_13 (by decide) ?_
  refine lv_goto (tgt := 18) hx hb dJ0_isLatin1_aae02_14 (by decide) ?_
  exact z_rz B hW (Or.inr rfl) dJ0_isLatin1_aae02_18
theorem f_J0_length_8abf5 (l : Launch) {Γ : Zg} {M : Zm} {l0 : Nat} (h0 : l0 < 10) : z_Fn l Γ yJ0_length_8abf5 cJ0_length_8abf5 1 (some .int) 1 30 [.ref (z_sK Γ l0)] M (some (.int (J0_length_8abf5 l0))) M := by
  refine z_Fn.of (by decide) (Nat.le_of_ble_eq_true rfl) ?_
  intro p e s m below meth c ls B hW hl
  have B : z_Bd Γ p s m _ meth c cJ0_length_8abf5 1 (some .int) RJ0 := B
  have hl : lv_has ls 1 [(0, .ref (z_sK Γ l0))] := hl
  have hx := B.1
  have hb := B.2.1
  have ho := B.2.2.2.1
  have hw := B.2.2.2.2.1
  have hE := B.2.2.2.2.2.1.2.2
  refine lv_aload_n hx hb dJ0_length_8abf5_0 rfl (lv_at hl 0 rfl) ?_
  refine vk_getf hx hb (hE.1.1 l0 h0).2.2.1 hW.2.2 ho (hw _ q1277) (fun _ h => h) dJ0_length_8abf5_1 ?_
  refine va_tlen hx hb (hE.1.1 l0 h0).2.2.2 hW.2.2 rfl dJ0_length_8abf5_4 ?_
  refine lv_aload_n hx hb dJ0_length_8abf5_5 rfl (lv_at hl 0 rfl) ?_
  refine z_cVs (As := []) (rest := [.int (Int32.ofNat (z_sl.getD l0 0))]) B hW (f_J0_coder_7d493 l h0) sc_J0_coder_7d493 ⟨q694, q695, q696⟩ h0 ⟨Nat.le_of_ble_eq_true rfl, Nat.le_of_ble_eq_true rfl⟩ ⟨Nat.zero_le _, Nat.zero_le _⟩ rfl hl.1 rfl (Nat.le_of_ble_eq_true rfl) dJ0_length_8abf5_6 (fun H locs hW => ?_)
  refine lv_ishr hx hb dJ0_length_8abf5_9 ?_
  have e9 : J0_length_8abf5 l0 = Int32.ofNat (z_sl.getD l0 0) >>> ((0 : Int32) &&& 31) := (sb_shr0 _).symm
  rw [e9]
  exact z_ri B hW dJ0_length_8abf5_10
theorem f_J3_checkIndex_8e157 (l : Launch) {Γ : Zg} {M : Zm} {l0 l1 : Int32} {v : Value} (hv : v.category = 1) (g1 : ¬ l0 < 0) (g2 : l0 < l1) : z_Fn l Γ yJ3_checkIndex_8e157 cJ3_checkIndex_8e157 3 (some .int) 0 0 [.int l0, .int l1, v] M (some (.int l0)) M := by
  refine z_Fn.of (by decide) ?_ ?_
  · have e1 : (lg_sl [v]).length ≤ 1 := by cases v <;> simp [Value.category] at hv <;> exact Nat.le_of_ble_eq_true rfl
    exact Nat.le_trans (show (lg_sl [Value.int l0, .int l1, v]).length ≤ 2 + (lg_sl [v]).length by cases v <;> exact Nat.le_of_ble_eq_true rfl) (by omega)
  intro p e s m below meth c ls B hW hl
  have B : z_Bd Γ p s m _ meth c cJ3_checkIndex_8e157 3 (some .int) RJ3 := B
  have hx := B.1
  have hb := B.2.1
  have hl : lv_has ls 3 [(0, .int l0), (1, .int l1)] := ⟨hl.1, hl.2.1, fun q hq => hl.2.2 q (by
    rcases List.mem_cons.mp hq with rfl | hq
    · exact List.mem_of_getElem? (i := 0) rfl
    · rcases List.mem_cons.mp hq with rfl | hq
      · exact List.mem_of_getElem? (i := 1) rfl
      · cases hq)⟩
  refine lv_iload_n hx hb dJ3_checkIndex_8e157_0 rfl (lv_at hl 0 rfl) ?_
  refine lv_if_lt (tgt := 9) hx hb dJ3_checkIndex_8e157_1 (by decide) (fun c1 => absurd c1 g1) (fun c1 => ?_)
  refine lv_iload_n hx hb dJ3_checkIndex_8e157_4 rfl (lv_at hl 0 rfl) ?_
  refine lv_iload_n hx hb dJ3_checkIndex_8e157_5 rfl (lv_at hl 1 rfl) ?_
  refine lv_icmp_lt (tgt := 16) hx hb dJ3_checkIndex_8e157_6 (by decide) (fun c1 => ?_) (fun c1 => absurd g2 c1)
  refine lv_iload_n hx hb dJ3_checkIndex_8e157_16 rfl (lv_at hl 0 rfl) ?_
  exact z_ri B hW dJ3_checkIndex_8e157_17
theorem f_J0_checkIndex_df160 (l : Launch) {Γ : Zg} {M : Zm} {l0 l1 : Int32} (g1 : ¬ l0 < 0) (g2 : l0 < l1) : z_Fn l Γ yJ0_checkIndex_df160 cJ0_checkIndex_df160 2 none 1 30 [.int l0, .int l1] M none M := by
  refine z_Fn.of (by decide) (Nat.le_of_ble_eq_true rfl) ?_
  intro p e s m below meth c ls B hW hl
  have B : z_Bd Γ p s m _ meth c cJ0_checkIndex_df160 2 none RJ0 := B
  have hl : lv_has ls 2 [(0, .int l0), (1, .int l1)] := hl
  have hx := B.1
  have hb := B.2.1
  have ho := B.2.2.2.1
  have hw := B.2.2.2.2.1
  have hE := B.2.2.2.2.2.1.2.2
  refine lv_iload_n hx hb dJ0_checkIndex_df160_0 rfl (lv_at hl 0 rfl) ?_
  refine lv_iload_n hx hb dJ0_checkIndex_df160_1 rfl (lv_at hl 1 rfl) ?_
  rcases hE.2.2.2.2.2 with hz | ⟨t, hz⟩
  · refine va_gets hx hb hz hW.2.2 ho (hw _ q714) (fun _ h => h) dJ0_checkIndex_df160_2 ?_
    refine z_cS (As := [.int l0, .int l1, .null]) (rest := []) B hW (f_J3_checkIndex_8e157 l rfl g1 g2) sc_J3_checkIndex_8e157 ⟨q716, q717⟩ ⟨Nat.le_of_ble_eq_true rfl, Nat.le_of_ble_eq_true rfl⟩ ⟨Nat.zero_le _, Nat.zero_le _⟩ rfl hl.1 rfl (Nat.le_of_ble_eq_true rfl) dJ0_checkIndex_df160_5 (fun H locs hW => ?_)
    refine lv_pop hx hb dJ0_checkIndex_df160_8 rfl ?_
    exact z_rv B hW dJ0_checkIndex_df160_9
  · refine va_gets hx hb hz hW.2.2 ho (hw _ q714) (fun _ h => h) dJ0_checkIndex_df160_2 ?_
    refine z_cS (As := [.int l0, .int l1, .ref t]) (rest := []) B hW (f_J3_checkIndex_8e157 l rfl g1 g2) sc_J3_checkIndex_8e157 ⟨q716, q717⟩ ⟨Nat.le_of_ble_eq_true rfl, Nat.le_of_ble_eq_true rfl⟩ ⟨Nat.zero_le _, Nat.zero_le _⟩ rfl hl.1 rfl (Nat.le_of_ble_eq_true rfl) dJ0_checkIndex_df160_5 (fun H locs hW => ?_)
    refine lv_pop hx hb dJ0_checkIndex_df160_8 rfl ?_
    exact z_rv B hW dJ0_checkIndex_df160_9
theorem z_ixl {i : Int32} {n : Nat} (h : vp_in i n) (hn : n < 2 ^ 31) : i < nI n := by
  obtain ⟨j, hj, rfl⟩ := vp_in_of h hn
  exact nI_lt hj hn
theorem z_slb (k : Nat) : z_sl.getD k 0 < 2 ^ 31 := by
  have h : ∀ n : Nat, n ≤ 7 → n < 2 ^ 31 := fun n h => by omega
  apply h
  match k with
  | 0 | 1 | 2 | 3 | 4 | 5 | 6 | 7 | 8 | 9 => decide
  | k + 10 => exact Nat.zero_le _
theorem f_J1_charAt_3b067 (l : Launch) {Γ : Zg} {M : Zm} {l0 : Nat} {l1 : Int32} (h0 : l0 < 10) (g : vp_in l1 (z_sl.getD l0 0)) : z_Fn l Γ yJ1_charAt_3b067 cJ1_charAt_3b067 2 (some .char) 2 60 [.ref (z_sV Γ l0), .int l1] M (some (.int (((z_sb.getD l0 []).getD l1.toNatClampNeg 0) &&& 255))) M := by
  refine z_Fn.of (by decide) (Nat.le_of_ble_eq_true rfl) ?_
  intro p e s m below meth c ls B hW hl
  have B : z_Bd Γ p s m _ meth c cJ1_charAt_3b067 2 (some .char) RJ1 := B
  have hl : lv_has ls 2 [(0, .ref (z_sV Γ l0)), (1, .int l1)] := hl
  have hx := B.1
  have hb := B.2.1
  have ho := B.2.2.2.1
  have hw := B.2.2.2.2.1
  have hE := B.2.2.2.2.2.1.2.2
  refine lv_iload_n hx hb dJ1_charAt_3b067_0 rfl (lv_at hl 1 rfl) ?_
  refine lv_aload_n hx hb dJ1_charAt_3b067_1 rfl (lv_at hl 0 rfl) ?_
  refine va_tlen hx hb (hE.1.1 l0 h0).2.2.2 hW.2.2 rfl dJ1_charAt_3b067_2 ?_
  refine z_cS (As := [.int l1, .int (Int32.ofNat (z_sl.getD l0 0))]) (rest := []) B hW (f_J0_checkIndex_df160 l (fun h => g (Or.inl h)) (z_ixl g (z_slb l0))) sc_J0_checkIndex_df160 ⟨q711, q712⟩ ⟨Nat.le_of_ble_eq_true rfl, Nat.le_of_ble_eq_true rfl⟩ ⟨Nat.zero_le _, Nat.zero_le _⟩ rfl hl.1 rfl (Nat.le_of_ble_eq_true rfl) dJ1_charAt_3b067_3 (fun H locs hW => ?_)
  refine lv_aload_n hx hb dJ1_charAt_3b067_6 rfl (lv_at hl 0 rfl) ?_
  refine lv_iload_n hx hb dJ1_charAt_3b067_7 rfl (lv_at hl 1 rfl) ?_
  refine va_tb hx hb (hE.1.1 l0 h0).2.2.2 hW.2.2 g rfl dJ1_charAt_3b067_8 ?_
  refine lv_sipush (v := 255) hx hb dJ1_charAt_3b067_9 (by decide) ?_
  refine lv_iand hx hb dJ1_charAt_3b067_12 ?_
  refine lv_i2c hx hb dJ1_charAt_3b067_13 (sc_c2 _) ?_
  exact z_rn B hW (sc_nar _) dJ1_charAt_3b067_14
theorem f_J0_charAt_5068e (l : Launch) {Γ : Zg} {M : Zm} {l0 : Nat} {l1 : Int32} {r : Int32} (hf : J0_charAt_5068e l0 l1 = some r) (h0 : l0 < 10) : z_Fn l Γ yJ0_charAt_5068e cJ0_charAt_5068e 2 (some .char) 4 110 [.ref (z_sK Γ l0), .int l1] M (some (.int r)) M := by
  rw [J0_charAt_5068e] at hf
  obtain ⟨g, hf⟩ := z_gd hf
  have hf := Option.some.inj hf
  subst hf
  refine z_Fn.of (by decide) (Nat.le_of_ble_eq_true rfl) ?_
  intro p e s m below meth c ls B hW hl
  have B : z_Bd Γ p s m _ meth c cJ0_charAt_5068e 2 (some .char) RJ0 := B
  have hl : lv_has ls 2 [(0, .ref (z_sK Γ l0)), (1, .int l1)] := hl
  have hx := B.1
  have hb := B.2.1
  have ho := B.2.2.2.1
  have hw := B.2.2.2.2.1
  have hE := B.2.2.2.2.2.1.2.2
  refine lv_aload_n hx hb dJ0_charAt_5068e_0 rfl (lv_at hl 0 rfl) ?_
  refine z_cVs (As := []) (rest := []) B hW (f_J0_isLatin1_aae02 l h0) sc_J0_isLatin1_aae02 ⟨q704, q705, q706⟩ h0 ⟨Nat.le_of_ble_eq_true rfl, Nat.le_of_ble_eq_true rfl⟩ ⟨Nat.zero_le _, Nat.zero_le _⟩ rfl hl.1 rfl (Nat.le_of_ble_eq_true rfl) dJ0_charAt_5068e_1 (fun H locs hW => ?_)
  refine lv_if_eq (tgt := 16) hx hb dJ0_charAt_5068e_4 (by decide) (fun c1 => absurd c1 (by decide)) (fun c1 => ?_)
  refine lv_aload_n hx hb dJ0_charAt_5068e_7 rfl (lv_at hl 0 rfl) ?_
  refine vk_getf hx hb (hE.1.1 l0 h0).2.2.1 hW.2.2 ho (hw _ q1277) (fun _ h => h) dJ0_charAt_5068e_8 ?_
  refine lv_iload_n hx hb dJ0_charAt_5068e_11 rfl (lv_at hl 1 rfl) ?_
  refine z_cS (As := [.ref (z_sV Γ l0), .int l1]) (rest := []) B hW (f_J1_charAt_3b067 l h0 g) sc_J1_charAt_3b067 ⟨q708, q709⟩ ⟨Nat.le_of_ble_eq_true rfl, Nat.le_of_ble_eq_true rfl⟩ ⟨Nat.zero_le _, Nat.zero_le _⟩ rfl hl.1 rfl (Nat.le_of_ble_eq_true rfl) dJ0_charAt_5068e_12 (fun H locs hW => ?_)
  exact z_rn B hW (sc_nar _) dJ0_charAt_5068e_15
