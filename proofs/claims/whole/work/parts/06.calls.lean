theorem z_Kx.blind {Γ : Zg} {U : State} {g : JFrame} {mk : MethodId} {a : Array Value} (h : z_Kx Γ U U.heap) : z_Kx Γ (U.calling g mk a) (U.calling g mk a).heap := by
  obtain ⟨hK, hN, h1, ⟨a0, a1, a2, a3, a4, a5, a6, a7, a8, a9⟩, h3, h4, h5, h6⟩ := h
  have al : U.vm.Alike (U.calling g mk a).vm := Vm.Alike.refl U.vm
  refine ⟨va_K.moved al hK, fun w hw => ?_, vk_S.moved al h1, ⟨a0.same rfl, a1.same rfl, a2.same rfl, a3.same rfl, a4.same rfl, a5.same rfl, a6.same rfl, a7.same rfl, a8.same rfl, a9.same rfl⟩, va_Z.moved al h3, va_Z.moved al h4, va_T.moved al h5, va_Zq.moved al h6⟩
  have h9 := hN w hw
  have g9 := (List.mem_filter.mp hw).2
  cases w with
  | fieldLinkNest _ _ _ _ _ _ => exact va_Nw.same rfl rfl h9
  | methodLinkNest _ _ _ _ => exact va_Nw.same rfl rfl h9
  | _ => cases g9
theorem z_good {w : Cond} (h : w ∈ BIG) : GoodIn BIG (w :: BIG) := by
  intro x hx
  rcases List.mem_cons.mp hx with rfl | h'
  · exact ⟨h, good_of_word (List.mem_filter.mp h).2⟩
  · exact ⟨h', good_of_word (List.mem_filter.mp h').2⟩
abbrev z_Pc (Γ : Zg) (av : List Value) (M : Zm) : Array Value → State → Prop := va_Pc av (fun U => va_P (z_D Γ) vwCl (va_pl (z_L Γ) (z_wc Γ M)) U.heap ∧ va_D (z_A Γ) (va_pl (z_L Γ) (z_wc Γ M)) ∧ z_Kx Γ U U.heap ∧ z_Gk Γ)
theorem z_blind {Γ : Zg} {av : List Value} {M : Zm} : FrameBlind (z_Pc Γ av M) := fun a U g mk q => ⟨q.1, q.2.1, q.2.2.1, q.2.2.2.1.blind, q.2.2.2.2⟩
/-- what a call asks of the callee alone -/
def z_Sc (y : MethodName) (c2 : ByteArray) (mL2 : Nat) (ret2 : Option FieldType) (n : Nat) : Prop := Cond.initialized y.cls ∈ BIG ∧ Cond.code y c2 mL2 ret2 ∈ BIG ∧ (y.cls ≠ "java/lang/invoke/MethodHandle" ∧ y.cls ≠ "java/lang/invoke/VarHandle" ∧ (parseMethodDescriptor y.desc).map (fun d => d.parameters.length) = some n)
def z_Sv (own : String) (idx ci : Nat) (C : String) (y : MethodName) : Prop := (ci < 12 ∧ ∃ T N, vwCl[ci]? = some (C, T, N)) ∧ Cond.methodLink own idx y ∈ BIG ∧ Cond.instanceMethod y ∈ BIG ∧ Cond.selects C y y ∈ BIG
theorem z_obj {Γ : Zg} {M : Zm} {b ci : Nat} (h : z_k Γ b = ci) (hc : ci < 12) : ∃ fs, z_wc Γ M b = .inr (ci, fs) := by
  subst h
  rcases (show z_k Γ b = 0 ∨ z_k Γ b = 1 ∨ z_k Γ b = 2 ∨ z_k Γ b = 3 ∨ z_k Γ b = 4 ∨ z_k Γ b = 5 ∨ z_k Γ b = 6 ∨ z_k Γ b = 7 ∨ z_k Γ b = 8 ∨ z_k Γ b = 9 ∨ z_k Γ b = 10 ∨ z_k Γ b = 11 by omega) with h | h | h | h | h | h | h | h | h | h | h | h
  · exact ⟨_, by rw [z_wc0 h, h]⟩
  · exact ⟨_, by rw [z_wc1 h, h]⟩
  · exact ⟨_, by rw [z_wc2 h, h]⟩
  · exact ⟨_, by rw [z_wc3 h, h]⟩
  · exact ⟨_, by rw [z_wc4 h, h]⟩
  · exact ⟨_, by rw [z_wc5 h, h]⟩
  · exact ⟨_, by rw [z_wc6 h, h]⟩
  · exact ⟨_, by rw [z_wc7 h, h]⟩
  · exact ⟨_, by rw [z_wc8 h, h]⟩
  · exact ⟨_, by rw [z_wc9 h, h]⟩
  · exact ⟨_, by rw [z_wc10 h, h]⟩
  · exact ⟨_, by rw [z_wc11 h, h]⟩
section ZCALLS
variable {p : Program} {l : Launch} {e : Env} {R : Room} {s : State} {m : MethodId} {args : Array Value} {below : List Frame} {meth : Method} {c : Code} {H : Heap} {locs : List Loc} {cells slots : Nat} {Q : State → Prop} {cc : ByteArray} {pc : Nat} {ls : Array Slot} {rest : List Value} {Γ : Zg} {M : Zm} {mL : Nat} {ret : Option FieldType} {own : String}
theorem z_recv (B : z_Bd Γ p s m args meth c cc mL ret own) (hW : z_Wd Γ M s.heap H locs) {b ci : Nat} {C : String} (hb : z_Is Γ ci b) (hc : ci < 12 ∧ ∃ T N, vwCl[ci]? = some (C, T, N)) : ∃ cell : Cell, H[b]? = some cell ∧ cell.vm.isStatics = false ∧ s.vm.findClass C = some cell.cls := by
  obtain ⟨h1, T, N, hcl⟩ := hc
  obtain ⟨fs, hfs⟩ := z_obj (M := M) hb.2 h1
  obtain ⟨q, hq⟩ := z_at hW hb.1 hfs
  exact va_recv B.2.2.2.2.2.1.1 hW.1 hcl hq
theorem z_go {o : Option Value} {M' : Zm} {a : Array Value} {st : List Value} (hr : va_Run p l e R s m args below meth c H locs cells slots 0 0 (F0 m pc ls st) rest (z_Qc Γ o M' a) (z_A Γ)) (hW : z_Wd Γ M s.heap H locs) (kk : ∀ (H1 : Heap) (locs1 : List Loc), z_Wd Γ M' s.heap H1 locs1 → W p l e R s m args below meth c H1 locs1 cells slots Q (F0 m (pc + 3) ls (o.toList ++ rest))) : W p l e R s m args below meth c H locs cells slots Q (F0 m pc ls (st)) := by
  intro T hT X
  obtain ⟨v, st₀, t, T', L, h0, X', hL, e1, e2, ⟨hv, hP, hD, hz, hk⟩, stp⟩ := hr T hT X
  cases hv
  rw [h0] at hz hk
  obtain ⟨t2, a1, b1⟩ := kk T'.heap (locs ++ L) ⟨by rw [e1]; exact hP, hD, Nat.le_trans hW.2.2.1 (by rw [e1]; exact hz), fun q h1 h2 => by rw [e1, hk q (Nat.lt_of_lt_of_le h1 hW.2.2.1) h2]; exact hW.2.2.2.1 q h1 h2, fun q hq => by
    rcases List.mem_append.mp hq with h | h
    · exact hW.2.2.2.2 q h
    · exact hL q h⟩ T' rfl X'
  exact ⟨t2, stp t2 a1, b1⟩
theorem z_cV (B : z_Bd Γ p s m args meth c cc mL ret own) (hW : z_Wd Γ M s.heap H locs) {y : MethodName} {c2 : ByteArray} {mL2 fr lo n idx : Nat} {ret2 : Option FieldType} {As : List Value} {o : Option Value} {M' : Zm} {st : List Value} {b ci : Nat} {C : String} (hF : z_Fn l Γ y c2 mL2 ret2 fr lo (.ref b :: As) M o M') (hs : z_Sc y c2 mL2 ret2 n) (hv : z_Sv own idx ci C y) (hb : z_Is Γ ci b) (hR : fr + 1 ≤ R.frames ∧ 8 + (mL2 + 11) + lo ≤ R.locals) (hcs : cells ≤ R.cells ∧ slots ≤ R.slots) (hn : As.length = n) (hsz : ls.size = mL) (hst : st = As.reverse ++ .ref b :: rest) (hrm : (rest.map fun v => v.category).sum ≤ 8) (hdg : decode cc pc = .ok (.invokevirtual idx, 3)) (kk : ∀ (H1 : Heap) (locs1 : List Loc), z_Wd Γ M' s.heap H1 locs1 → W p l e R s m args below meth c H1 locs1 cells slots Q (F0 m (pc + 3) ls (o.toList ++ rest))) : W p l e R s m args below meth c H locs cells slots Q (F0 m pc ls (st)) := by
  refine z_go (va_runV (C := C) ⟨B.1, B.2.1, B.2.2.1, B.2.2.2.1, B.2.2.2.2.1⟩ hF ⟨callB_of n B.2.2.2.2.1 (z_good hs.2.1) rfl rfl rfl (B.2.2.2.2.1 _ hs.1) (B.2.2.2.2.1 _ hv.2.1) hs.2.2 hR, B.2.2.2.2.1 _ hv.2.2.1, B.2.2.2.2.1 _ hv.2.2.2⟩ ⟨z_blind, z_recv B hW hb hv.1, fun U hU hw => ⟨rfl, by rw [hU]; exact hW.1, hW.2.1, B.2.2.2.2.2.1.pass hW.2.2 hU hw, B.2.2.2.2.2.2.1⟩⟩ rfl hn hsz hst (lv_room hrm) hdg hcs) hW kk
theorem z_cS (B : z_Bd Γ p s m args meth c cc mL ret own) (hW : z_Wd Γ M s.heap H locs) {y : MethodName} {c2 : ByteArray} {mL2 fr lo n idx : Nat} {ret2 : Option FieldType} {As : List Value} {o : Option Value} {M' : Zm} {st : List Value} (hF : z_Fn l Γ y c2 mL2 ret2 fr lo As M o M') (hs : z_Sc y c2 mL2 ret2 n) (hv : Cond.methodLink own idx y ∈ BIG ∧ Cond.static y ∈ BIG) (hR : fr + 1 ≤ R.frames ∧ 8 + (mL2 + 11) + lo ≤ R.locals) (hcs : cells ≤ R.cells ∧ slots ≤ R.slots) (hn : As.length = n) (hsz : ls.size = mL) (hst : st = As.reverse ++ rest) (hrm : (rest.map fun v => v.category).sum ≤ 8) (hdg : decode cc pc = .ok (.invokestatic idx, 3)) (kk : ∀ (H1 : Heap) (locs1 : List Loc), z_Wd Γ M' s.heap H1 locs1 → W p l e R s m args below meth c H1 locs1 cells slots Q (F0 m (pc + 3) ls (o.toList ++ rest))) : W p l e R s m args below meth c H locs cells slots Q (F0 m pc ls (st)) := by
  refine z_go (va_runS ⟨B.1, B.2.1, B.2.2.1, B.2.2.2.1, B.2.2.2.2.1⟩ hF ⟨callB_of n B.2.2.2.2.1 (z_good hs.2.1) rfl rfl rfl (B.2.2.2.2.1 _ hs.1) (B.2.2.2.2.1 _ hv.1) hs.2.2 hR, B.2.2.2.2.1 _ hv.2⟩ ⟨z_blind, fun U hU hw => ⟨rfl, by rw [hU]; exact hW.1, hW.2.1, B.2.2.2.2.2.1.pass hW.2.2 hU hw, B.2.2.2.2.2.2.1⟩⟩ rfl hn hsz hst (lv_room hrm) hdg hcs) hW kk
theorem z_cSN (B : z_Bd Γ p s m args meth c cc mL ret own) (hW : z_Wd Γ M s.heap H locs) {y : MethodName} {c2 : ByteArray} {mL2 fr lo n idx : Nat} {ret2 : Option FieldType} {As : List Value} {o : Option Value} {M' : Zm} {st : List Value} {host : String} (hF : z_Fn l Γ y c2 mL2 ret2 fr lo As M o M') (hs : z_Sc y c2 mL2 ret2 n) (hv : Cond.methodLinkNest own idx y host ∈ NW ∧ Cond.static y ∈ BIG) (hR : fr + 1 ≤ R.frames ∧ 8 + (mL2 + 11) + lo ≤ R.locals) (hcs : cells ≤ R.cells ∧ slots ≤ R.slots) (hn : As.length = n) (hsz : ls.size = mL) (hst : st = As.reverse ++ rest) (hrm : (rest.map fun v => v.category).sum ≤ 8) (hdg : decode cc pc = .ok (.invokestatic idx, 3)) (kk : ∀ (H1 : Heap) (locs1 : List Loc), z_Wd Γ M' s.heap H1 locs1 → W p l e R s m args below meth c H1 locs1 cells slots Q (F0 m (pc + 3) ls (o.toList ++ rest))) : W p l e R s m args below meth c H locs cells slots Q (F0 m pc ls (st)) := by
  refine z_go (va_runSN (host := host) ⟨B.1, B.2.1, B.2.2.1, B.2.2.2.1, B.2.2.2.2.1⟩ hF ⟨va_cnB n B.2.2.2.2.1 (z_good hs.2.1) rfl rfl rfl (B.2.2.2.2.2.1.2.1 _ hv.1) (B.2.2.2.2.1 _ hs.1) hs.2.2 hR, B.2.2.2.2.1 _ hv.2, trivial⟩ ⟨z_blind, fun U hU hw => ⟨rfl, by rw [hU]; exact hW.1, hW.2.1, B.2.2.2.2.2.1.pass hW.2.2 hU hw, B.2.2.2.2.2.2.1⟩⟩ rfl hn hsz hst (lv_room hrm) hdg hcs) hW kk
/-- a call through a class above: x is named, y is selected -/
def z_Su (own : String) (idx ci : Nat) (C owner : String) (x y : MethodName) (n : Nat) : Prop := (ci < 12 ∧ ∃ T N, vwCl[ci]? = some (C, T, N)) ∧ Cond.methodLink own idx x ∈ BIG ∧ Cond.sameMethod x.cls owner x.name x.desc ∈ BIG ∧ Cond.selects C x y ∈ BIG ∧ Cond.instanceMethod y ∈ BIG ∧ (Cond.instanceMethod ⟨owner, x.name, x.desc⟩ ∈ BIG ∧ ∃ b0 m0 r0, Cond.code ⟨owner, x.name, x.desc⟩ b0 m0 r0 ∈ BIG) ∧ (owner ≠ "java/lang/invoke/MethodHandle" ∧ owner ≠ "java/lang/invoke/VarHandle") ∧ (parseMethodDescriptor x.desc).map (fun d => d.parameters.length) = some n
theorem z_cU (B : z_Bd Γ p s m args meth c cc mL ret own) (hW : z_Wd Γ M s.heap H locs) {y : MethodName} {c2 : ByteArray} {mL2 fr lo n idx : Nat} {ret2 : Option FieldType} {As : List Value} {o : Option Value} {M' : Zm} {st : List Value} {b ci : Nat} {C owner : String} {x : MethodName} (hF : z_Fn l Γ y c2 mL2 ret2 fr lo (.ref b :: As) M o M') (hs : z_Sc y c2 mL2 ret2 n) (hv : z_Su own idx ci C owner x y n) (hb : z_Is Γ ci b) (hR : fr + 1 ≤ R.frames ∧ 8 + (mL2 + 11) + lo ≤ R.locals) (hcs : cells ≤ R.cells ∧ slots ≤ R.slots) (hn : As.length = n) (hsz : ls.size = mL) (hst : st = As.reverse ++ .ref b :: rest) (hrm : (rest.map fun v => v.category).sum ≤ 8) (hdg : decode cc pc = .ok (.invokevirtual idx, 3)) (kk : ∀ (H1 : Heap) (locs1 : List Loc), z_Wd Γ M' s.heap H1 locs1 → W p l e R s m args below meth c H1 locs1 cells slots Q (F0 m (pc + 3) ls (o.toList ++ rest))) : W p l e R s m args below meth c H locs cells slots Q (F0 m pc ls (st)) := by
  have hG := z_good hs.2.1
  obtain ⟨b0, m0, r0, h0⟩ := hv.2.2.2.2.2.1.2
  have hd := hv.2.2.2.2.2.2.2
  have cw : va_CU R s args own C owner idx x y c2 mL2 ret2 (Cond.code y c2 mL2 ret2 :: BIG) (z_rm fr lo) 0 0 n := ⟨⟨rfl, rfl, hR.1, hR.2, pay_in B.2.2.2.2.1 hG, List.mem_cons_self⟩, B.2.2.2.2.1 _ hs.2.1, B.2.2.2.2.1 _ hs.1, hv.2.2.2.2.2.2.1, fun sig h => by rw [h] at hd; exact (Option.some.inj hd).symm, B.2.2.2.2.1 _ hv.2.1, B.2.2.2.2.1 _ hv.2.2.1, va_Decl.of (B.2.2.2.2.1 _ hv.2.2.2.2.2.1.1) (B.2.2.2.2.1 _ h0), B.2.2.2.2.1 _ hv.2.2.2.1, B.2.2.2.2.1 _ hv.2.2.2.2.1⟩
  exact z_go (va_runU ⟨B.1, B.2.1, B.2.2.1, B.2.2.2.1, B.2.2.2.2.1⟩ hF cw ⟨z_blind, z_recv B hW hb hv.1, fun U hU hw => ⟨rfl, by rw [hU]; exact hW.1, hW.2.1, B.2.2.2.2.2.1.pass hW.2.2 hU hw, B.2.2.2.2.2.2.1⟩⟩ rfl hn hsz hst (lv_room hrm) hdg hcs) hW kk
def z_Ss (own : String) (idx : Nat) (y : MethodName) : Prop := Cond.methodLink own idx y ∈ BIG ∧ Cond.sameMethod y.cls y.cls y.name y.desc ∈ BIG ∧ Cond.superclass own y.cls ∈ BIG ∧ Cond.instanceMethod y ∈ BIG ∧ y.name ≠ "<init>"
theorem z_clat (B : z_Bd Γ p s m args meth c cc mL ret own) {ci : Nat} {C : String} (hv : ci < 12 ∧ ∃ T N, vwCl[ci]? = some (C, T, N)) : ∃ cC, ClassAt s C cC := by
  obtain ⟨-, T, N, hcl⟩ := hv
  exact ⟨_, (B.2.2.2.2.2.1.1.1 ci _ hcl).2⟩
theorem z_cSU (B : z_Bd Γ p s m args meth c cc mL ret own) (hW : z_Wd Γ M s.heap H locs) {y : MethodName} {c2 : ByteArray} {mL2 fr lo n idx : Nat} {ret2 : Option FieldType} {As : List Value} {o : Option Value} {M' : Zm} {st : List Value} {b ci : Nat} {C : String} (hF : z_Fn l Γ y c2 mL2 ret2 fr lo (.ref b :: As) M o M') (hs : z_Sc y c2 mL2 ret2 n) (hS : z_Ss own idx y) (hv : (ci < 12 ∧ ∃ T N, vwCl[ci]? = some (C, T, N)) ∧ True) (hb : z_Is Γ ci b) (hR : fr + 1 ≤ R.frames ∧ 8 + (mL2 + 11) + lo ≤ R.locals) (hcs : cells ≤ R.cells ∧ slots ≤ R.slots) (hn : As.length = n) (hsz : ls.size = mL) (hst : st = As.reverse ++ .ref b :: rest) (hrm : (rest.map fun v => v.category).sum ≤ 8) (hdg : decode cc pc = .ok (.invokespecial idx, 3)) (kk : ∀ (H1 : Heap) (locs1 : List Loc), z_Wd Γ M' s.heap H1 locs1 → W p l e R s m args below meth c H1 locs1 cells slots Q (F0 m (pc + 3) ls (o.toList ++ rest))) : W p l e R s m args below meth c H locs cells slots Q (F0 m pc ls (st)) := by
  have hG := z_good hs.2.1
  obtain ⟨cC, hat⟩ := z_clat B hv.1
  have hd := hs.2.2.2.2
  have cw : va_CS R s args own idx y c2 mL2 ret2 (Cond.code y c2 mL2 ret2 :: BIG) (z_rm fr lo) 0 0 n := ⟨⟨rfl, rfl, hR.1, hR.2, pay_in B.2.2.2.2.1 hG, List.mem_cons_self⟩, B.2.2.2.2.1 _ hS.1, B.2.2.2.2.1 _ hS.2.1, B.2.2.2.2.1 _ hS.2.2.1, B.2.2.2.2.1 _ hS.2.2.2.1, B.2.2.2.2.1 _ hs.1, B.2.2.2.2.1 _ hs.2.1, hS.2.2.2.2, fun sig h => by rw [h] at hd; exact (Option.some.inj hd).symm⟩
  exact z_go (va_runSU hat ⟨B.1, B.2.1, B.2.2.1, B.2.2.2.1, B.2.2.2.2.1⟩ hF cw ⟨z_blind, z_recv B hW hb hv.1, fun U hU hw => ⟨rfl, by rw [hU]; exact hW.1, hW.2.1, B.2.2.2.2.2.1.pass hW.2.2 hU hw, B.2.2.2.2.2.2.1⟩⟩ rfl hn hsz hst (lv_room hrm) hdg hcs) hW kk
theorem z_ri (B : z_Bd Γ p s m args meth c cc mL (some .int) own) (hW : z_Wd Γ M s.heap H locs) {v : Int32} (hdg : decode cc pc = .ok (.ireturn, 1)) : W p l e R s m args below meth c H locs 0 0 (z_Q Γ below args s (some (.int v)) M) (F0 m pc ls [.int v]) := W.iret B.1 B.2.1 B.2.2.2.2.2.2.2.1 (fun t ht _ => ⟨rfl, by rw [ht]; exact hW.1, hW.2.1, hW.2.2.F ht⟩) hW.2.2.2.2 hdg B.2.2.2.2.2.2.2.2
theorem z_rz (B : z_Bd Γ p s m args meth c cc mL (some .boolean) own) (hW : z_Wd Γ M s.heap H locs) {v : Int32} (hz : v = 0 ∨ v = 1) (hdg : decode cc pc = .ok (.ireturn, 1)) : W p l e R s m args below meth c H locs 0 0 (z_Q Γ below args s (some (.int v)) M) (F0 m pc ls [.int v]) := W.zret B.1 B.2.1 B.2.2.2.2.2.2.2.1 (z_nz hz) (fun t ht _ => ⟨rfl, by rw [ht]; exact hW.1, hW.2.1, hW.2.2.F ht⟩) hW.2.2.2.2 hdg B.2.2.2.2.2.2.2.2
theorem z_rn {ty : FieldType} (B : z_Bd Γ p s m args meth c cc mL (some ty) own) (hW : z_Wd Γ M s.heap H locs) {v : Int32} (hz : narrow ty (.int v) = .int v) (hdg : decode cc pc = .ok (.ireturn, 1)) : W p l e R s m args below meth c H locs 0 0 (z_Q Γ below args s (some (.int v)) M) (F0 m pc ls [.int v]) := W.zret B.1 B.2.1 B.2.2.2.2.2.2.2.1 hz (fun t ht _ => ⟨rfl, by rw [ht]; exact hW.1, hW.2.1, hW.2.2.F ht⟩) hW.2.2.2.2 hdg B.2.2.2.2.2.2.2.2
theorem z_rl (B : z_Bd Γ p s m args meth c cc mL (some .long) own) (hW : z_Wd Γ M s.heap H locs) {v : Int64} (hdg : decode cc pc = .ok (.lreturn, 1)) : W p l e R s m args below meth c H locs 0 0 (z_Q Γ below args s (some (.long v)) M) (F0 m pc ls [.long v]) := W.lret B.1 B.2.1 B.2.2.2.2.2.2.2.1 (fun t ht _ => ⟨rfl, by rw [ht]; exact hW.1, hW.2.1, hW.2.2.F ht⟩) hW.2.2.2.2 hdg B.2.2.2.2.2.2.2.2
theorem z_rv (B : z_Bd Γ p s m args meth c cc mL none own) (hW : z_Wd Γ M s.heap H locs)  (hdg : decode cc pc = .ok (.return_, 1)) : W p l e R s m args below meth c H locs 0 0 (z_Q Γ below args s (none) M) (F0 m pc ls []) := W.vret B.1 B.2.1 B.2.2.2.2.2.2.2.1 (fun t ht _ => ⟨rfl, by rw [ht]; exact hW.1, hW.2.1, hW.2.2.F ht⟩) hW.2.2.2.2 hdg B.2.2.2.2.2.2.2.2
theorem z_ra {C : String} (B : z_Bd Γ p s m args meth c cc mL (some (.object C)) own) (hW : z_Wd Γ M s.heap H locs) {v : Nat} (hdg : decode cc pc = .ok (.areturn, 1)) : W p l e R s m args below meth c H locs 0 0 (z_Q Γ below args s (some (.ref v)) M) (F0 m pc ls [.ref v]) := W.aret B.1 B.2.1 B.2.2.2.2.2.2.2.1 (Or.inl ⟨_, rfl⟩) (Or.inr ⟨_, rfl⟩) (fun t ht _ => ⟨rfl, by rw [ht]; exact hW.1, hW.2.1, hW.2.2.F ht⟩) hW.2.2.2.2 hdg B.2.2.2.2.2.2.2.2
end ZCALLS
