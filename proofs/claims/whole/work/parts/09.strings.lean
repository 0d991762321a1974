theorem z_lk2 {x : Int} (h1 : x ≠ 8) (h2 : x ≠ 16) : Op.lookupswitch.offset (#[(8, 28), (16, 33)] : Array (Int × Int)).toList 38 x = 38 := by
  simp [Op.lookupswitch.offset, Ne.symm h1, Ne.symm h2]
theorem h_X3_visitor {Γ : Zg} (hg : z_Gk Γ) {l0 : Nat} {l1 : Int32} {r : Nat} (e : X3_visitor Γ l0 l1 = some r) (h0 : z_Is Γ 3 l0) : z_Is Γ 8 r := by
  rw [X3_visitor] at e
  obtain ⟨g, e⟩ := z_gd e
  cases e
  exact z_g16 hg (z_g3_1 hg h0) g
theorem h_X7_nameOf (x : Int32) : X7_nameOf x < 10 := by
  unfold X7_nameOf
  repeat' split
  all_goals decide
section ZSTR
variable {p : Program} {l : Launch} {e : Env} {R : Room} {s : State} {m : MethodId} {args : Array Value} {below : List Frame} {meth : Method} {c : Code} {H : Heap} {locs : List Loc} {cells slots : Nat} {Q : State → Prop} {cc : ByteArray} {pc : Nat} {ls : Array Slot} {rest : List Value} {Γ : Zg} {M : Zm} {mL : Nat} {ret : Option FieldType} {own : String}
theorem z_cVs (B : z_Bd Γ p s m args meth c cc mL ret own) (hW : z_Wd Γ M s.heap H locs) {y : MethodName} {c2 : ByteArray} {mL2 fr lo n idx : Nat} {ret2 : Option FieldType} {As : List Value} {o : Option Value} {M' : Zm} {st : List Value} {k : Nat} (hF : z_Fn l Γ y c2 mL2 ret2 fr lo (.ref (z_sK Γ k) :: As) M o M') (hs : z_Sc y c2 mL2 ret2 n) (hv : Cond.methodLink own idx y ∈ BIG ∧ Cond.instanceMethod y ∈ BIG ∧ Cond.selects "java/lang/String" y y ∈ BIG) (hb : k < 10) (hR : fr + 1 ≤ R.frames ∧ 8 + (mL2 + 11) + lo ≤ R.locals) (hcs : cells ≤ R.cells ∧ slots ≤ R.slots) (hn : As.length = n) (hsz : ls.size = mL) (hst : st = As.reverse ++ .ref (z_sK Γ k) :: rest) (hrm : (rest.map fun v => v.category).sum ≤ 8) (hdg : decode cc pc = .ok (.invokevirtual idx, 3)) (kk : ∀ (H1 : Heap) (locs1 : List Loc), z_Wd Γ M' s.heap H1 locs1 → W p l e R s m args below meth c H1 locs1 cells slots Q (F0 m (pc + 3) ls (o.toList ++ rest))) : W p l e R s m args below meth c H locs cells slots Q (F0 m pc ls (st)) := by
  refine z_go (va_runV (C := "java/lang/String") ⟨B.1, B.2.1, B.2.2.1, B.2.2.2.1, B.2.2.2.2.1⟩ hF ⟨callB_of n B.2.2.2.2.1 (z_good hs.2.1) rfl rfl rfl (B.2.2.2.2.1 _ hs.1) (B.2.2.2.2.1 _ hv.1) hs.2.2 hR, B.2.2.2.2.1 _ hv.2.1, B.2.2.2.2.1 _ hv.2.2⟩ ⟨z_blind, vk_recv B.2.2.2.2.2.1.2.2.1 hb hW.2.2, fun U hU hw => ⟨rfl, by rw [hU]; exact hW.1, hW.2.1, B.2.2.2.2.2.1.pass hW.2.2 hU hw, B.2.2.2.2.2.2.1⟩⟩ rfl hn hsz hst (lv_room hrm) hdg hcs) hW kk
end ZSTR
theorem f_J0_length_8abf5 (l : Launch) {Γ : Zg} {M : Zm} {l0 : Nat} (h0 : l0 < 10) : z_Fn l Γ yJ0_length_8abf5 cJ0_length_8abf5 1 (some .int) 1 30 [.ref (z_sK Γ l0)] M (some (.int (J0_length_8abf5 l0))) M := sorry
theorem f_J0_charAt_5068e (l : Launch) {Γ : Zg} {M : Zm} {l0 : Nat} {l1 : Int32} {r : Int32} (hf : J0_charAt_5068e l0 l1 = some r) (h0 : l0 < 10) : z_Fn l Γ yJ0_charAt_5068e cJ0_charAt_5068e 2 (some .char) 4 110 [.ref (z_sK Γ l0), .int l1] M (some (.int r)) M := sorry
