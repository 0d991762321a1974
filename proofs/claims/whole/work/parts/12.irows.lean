
def i_ws (sz n : Nat) (f : Nat → va_E) : va_W := (List.range n).map (fun k => (sz + k, f k))
theorem i_len {sz n : Nat} {f : Nat → va_E} : (i_ws sz n f).length = n := by simp [i_ws]
theorem i_at {sz n k : Nat} {f : Nat → va_E} (h : k < n) : (i_ws sz n f)[k]? = some (sz + k, f k) := by simp [i_ws, h]
theorem i_of {sz n k : Nat} {f : Nat → va_E} {q : Nat × va_E} (h : (i_ws sz n f)[k]? = some q) : k < n ∧ q = (sz + k, f k) := by
  have hk : k < n := by
    have := (List.getElem?_eq_some_iff.mp h).1
    rwa [i_len] at this
  rw [i_at hk] at h
  exact ⟨hk, (Option.some.inj h).symm⟩
theorem i_set {sz n k : Nat} {f : Nat → va_E} {x : va_E} (h : k < n) : (i_ws sz n f).set k (sz + k, x) = i_ws sz n (va_up f k x) := by
  apply List.ext_getElem?
  intro j
  by_cases hj : j < n
  · rw [i_at hj, List.getElem?_set]
    by_cases hk : k = j
    · subst hk
      rw [if_pos rfl, if_pos (by rw [i_len]; exact h), va_up_self]
    · rw [if_neg hk, i_at hj, va_up_ne _ _ (Ne.symm hk)]
  · rw [List.getElem?_eq_none (by rw [List.length_set, i_len]; omega), List.getElem?_eq_none (by rw [i_len]; omega)]
theorem i_push {sz n : Nat} {f : Nat → va_E} {x : va_E} : i_ws sz n f ++ [(sz + n, x)] = i_ws sz (n + 1) (va_up f n x) := by
  unfold i_ws
  rw [List.range_succ, List.map_append]
  congr 1
  · apply List.map_congr_left
    intro k hk
    rw [va_up_ne _ _ (Nat.ne_of_lt (List.mem_range.mp hk))]
  · simp [va_up_self]
theorem i_D {sz n : Nat} {f : Nat → va_E} : va_D (fun q => sz ≤ q) (i_ws sz n f) := by
  refine ⟨fun i j p q hi hj hpq => ?_, fun k q hk => ?_⟩
  · obtain ⟨-, rfl⟩ := i_of hi
    obtain ⟨-, rfl⟩ := i_of hj
    have : sz + i = sz + j := hpq
    omega
  · obtain ⟨-, rfl⟩ := i_of hk
    exact Nat.le_add_right _ _
def i_W (D : va_G) (sz n : Nat) (f : Nat → va_E) (H0 H : Heap) (locs : List Loc) : Prop := H.size = sz + n ∧ va_P D vwCl (i_ws sz n f) H ∧ va_S (fun q => sz ≤ q) H0 H locs
def i_T (C : Nat → ClassId) : List (ClassId × FieldType) := [(C 0, .int), (C 1, .long), (C 2, .object "WhisperSeats$Person"), (C 3, .object "WhisperSeats$Sheet"), (C 4, .object "WhisperSeats$Visitor")]
def i_K (D : va_G) (C : Nat → ClassId) (U : State) : Prop := va_K D vwCl (i_T C) U ∧ (∀ w ∈ NW, va_Nw w U) ∧ (va_AO "WhisperSeats$Person" U ∧ va_AO "WhisperSeats$Sheet" U ∧ va_AO "WhisperSeats$Visitor" U) ∧ (va_Nw (.castable RX0 "WhisperSeats$Person") U ∧ va_Nw (.castable RX1 "WhisperSeats$Person") U ∧ va_Nw (.castable RX2 "WhisperSeats$Person") U ∧ va_Nw (.castable RX6 "WhisperSeats$Person") U ∧ va_Nw (.castable RX9 "WhisperSeats$Person") U)
theorem i_K.pass {D : va_G} {C : Nat → ClassId} {s U : State} (h : i_K D C s) (hW : s.WarmedH U.vm) : i_K D C U := by
  obtain ⟨h1, h2, ⟨h3, h4, h5⟩, h6, h7, h8, h9, h10⟩ := h
  exact ⟨va_K.moved hW.alike h1, fun w hw => z_nw (List.mem_filter.mp hw).2 hW (h2 w hw), ⟨va_AO.moved hW.alike h3, va_AO.moved hW.alike h4, va_AO.moved hW.alike h5⟩, va_Nw.warmC hW h6, va_Nw.warmC hW h7, va_Nw.warmC hW h8, va_Nw.warmC hW h9, va_Nw.warmC hW h10⟩
theorem i_K.blind {D : va_G} {C : Nat → ClassId} {U : State} {g : JFrame} {mk : MethodId} {a : Array Value} (h : i_K D C U) : i_K D C (U.calling g mk a) := by
  obtain ⟨h1, h2, ⟨h3, h4, h5⟩, h6, h7, h8, h9, h10⟩ := h
  have al : U.vm.Alike (U.calling g mk a).vm := Vm.Alike.refl U.vm
  refine ⟨va_K.moved al h1, fun w hw => ?_, ⟨va_AO.moved al h3, va_AO.moved al h4, va_AO.moved al h5⟩, va_Nw.same rfl rfl h6, va_Nw.same rfl rfl h7, va_Nw.same rfl rfl h8, va_Nw.same rfl rfl h9, va_Nw.same rfl rfl h10⟩
  have h9 := h2 w hw
  have g9 := (List.mem_filter.mp hw).2
  cases w with
  | fieldLinkNest _ _ _ _ _ _ => exact va_Nw.same rfl rfl h9
  | methodLinkNest _ _ _ _ => exact va_Nw.same rfl rfl h9
  | _ => cases g9
def i_B (D : va_G) (C : Nat → ClassId) (p : Program) (s : State) (m : MethodId) (args : Array Value) (c : Code) (cc : ByteArray) (mL : Nat) (own : String) : Prop :=
  p.tables.exec = Jvm.exec ∧ c.code = cc ∧ c.maxLocals = mL ∧ s.vm.findClass own = some m.cls ∧ (∀ w ∈ BIG, w.before args s = true) ∧ i_K D C s
def i_rm (fr lo mc ms : Nat) : Room := { frames := fr, cells := mc, slots := ms, locals := lo }
def i_Qc (D : va_G) (sz n : Nat) (f : Nat → va_E) : Array Value → State → Outcome → State → Prop := fun _ st oc t => oc = .returned none ∧ t.heap.size = sz + n ∧ va_P D vwCl (i_ws sz n f) t.heap ∧ va_F (fun q => sz ≤ q) st t
abbrev i_Pc (D : va_G) (C : Nat → ClassId) (sz : Nat) (av : List Value) (n : Nat) (f : Nat → va_E) : Array Value → State → Prop := va_Pc av (fun U => U.heap.size = sz + n ∧ va_P D vwCl (i_ws sz n f) U.heap ∧ i_K D C U)
def i_Fn (l : Launch) (D : va_G) (C : Nat → ClassId) (sz : Nat) (y : MethodName) (cc : ByteArray) (mL fr lo mc ms : Nat) (av : List Value) (n : Nat) (f : Nat → va_E) (n' : Nat) (f' : Nat → va_E) : Prop :=
  Met l y (.code y cc mL none :: BIG) (i_rm fr lo mc ms) (i_Pc D C sz av n f) (i_Qc D sz n' f') mc ms (fun q => sz ≤ q)
theorem i_Fn.of {l : Launch} {D : va_G} {C : Nat → ClassId} {sz : Nat} {y : MethodName} {cc : ByteArray} {mL fr lo mc ms : Nat} {av : List Value} {n : Nat} {f : Nat → va_E} {n' : Nat} {f' : Nat → va_E} (hy : plainName y.cls = true) (hi : y.name = "<init>") (hn : (lg_sl av).length ≤ mL)
    (body : ∀ (p : Program) (e : Env) (s : State) (m : MethodId) (below : List Frame) (meth : Method) (c : Code) (ls : Array Slot), i_B D C p s m av.toArray c cc mL y.cls → meth.sig.returnType = none → meth.locks = false → meth.name = "<init>" → i_W D sz n f s.heap s.heap [] → lv_has ls mL (lv_args 0 av) → W p l e (i_rm fr lo mc ms) s m av.toArray below meth c s.heap [] 0 0 (MQ below (i_Qc D sz n' f') av.toArray s mc ms (fun q => sz ≤ q)) (F0 m 0 ls [])) : i_Fn l D C sz y cc mL fr lo mc ms av n f n' f' := by
  refine Met.ofW (cc := cc) (maxL := mL) (ret := none) hy rfl ?_
  intro p e s m args below meth c s₁ B hml hv
  obtain ⟨rfl, h1, h2, h3⟩ := hv
  have hts := atoms_spec (ws := .code y cc mL none :: BIG) B.pre
  rw [lg_entry_eq]
  exact body p e s m below meth c _ ⟨B.exec, B.bytes, hml, findClass_of_methodNamed B.named, fun w hw => hts w (List.mem_cons_of_mem _ hw), h3⟩ B.returns B.notSynchronized ((name_of_methodNamed B.named B.method).1.trans hi) ⟨h1, h2, va_S.rf⟩ (lv_entry av hn)
theorem qobj_code : Cond.code Lib.objectInit ⟨#[0xb1]⟩ 1 none ∈ BIG := bigm 92 (by decide +kernel) (by decide +kernel)
theorem qac_int : Cond.arrayClass .int ∈ BIG := bigm 235 (by decide +kernel) (by decide +kernel)
theorem qac_long : Cond.arrayClass .long ∈ BIG := bigm 256 (by decide +kernel) (by decide +kernel)
section IROWS
variable {p : Program} {l : Launch} {e : Env} {R : Room} {s : State} {m : MethodId} {args : Array Value} {below : List Frame} {meth : Method} {c : Code} {H : Heap} {locs : List Loc} {cells slots : Nat} {Q : State → Prop} {cc : ByteArray} {pc : Nat} {ls : Array Slot} {rest : List Value} {D : va_G} {C : Nat → ClassId} {sz n mL : Nat} {f : Nat → va_E} {own : String}
theorem i_born {n : Nat} {f : Nat → va_E} {H0 H H1 : Heap} {locs : List Loc} {x : va_E} (hW : i_W D sz n f H0 H locs) (z1 : H1.size = sz + n + 1) (o1 : ∀ q, q < sz + n → H1[q]? = H[q]?) (hx : va_at D vwCl (sz + n, x) H1) : i_W D sz (n + 1) (va_up f n x) H0 H1 locs := by
  refine ⟨by rw [z1]; omega, ?_, ?_⟩
  · rw [← i_push]
    refine (hW.2.1.kept (fun k q hk => ?_)).app (fun k q hk => ?_)
    · obtain ⟨hk, rfl⟩ := i_of hk
      exact o1 _ (by show sz + k < sz + n; omega)
    · have hz : k < 1 := (List.getElem?_eq_some_iff.mp hk).1
      rw [show k = 0 by omega] at hk
      cases hk
      exact hx
  · have h1 := hW.1
    have h2 := hW.2.2
    exact ⟨by rw [z1]; have := h2.1; omega, fun q g1 g2 => by rw [o1 q (by have := h2.1; omega)]; exact h2.2.1 q g1 g2, h2.2.2⟩
theorem i_new (B : i_B D C p s m args c cc mL own) (hW : i_W D sz n f s.heap H locs) {C0 : String} {T : u_T} {N ci index : Nat} (hin : ∀ w ∈ u_ws C0 T N, w ∈ BIG) (ty : Nat → FieldType) (hty : ∀ k, k < N → parseFieldDescriptor (T k).2.2.1 = some (ty k)) (hcl : Cond.classLink own index C0 ∈ BIG) (hins : Cond.instantiable C0 N ∈ BIG) (hini : Cond.initialized C0 ∈ BIG) (hc : vwCl[ci]? = some (C0, T, N)) {fs : List Value} (hfs : ∀ j, j < N → defaultValue (ty j) = vp_V fs j) (hcells : cells + 1 ≤ R.cells) (hslots : slots + N ≤ R.slots) (hdg : decode cc pc = .ok (.new index, 3))
    (kk : ∀ H1 : Heap, i_W D sz (n + 1) (va_up f n (.inr (ci, fs))) s.heap H1 locs → W p l e R s m args below meth c H1 locs (cells + 1) (slots + N) Q (F0 m (pc + 3) ls (.ref (sz + n) :: rest))) : W p l e R s m args below meth c H locs cells slots Q (F0 m pc ls (rest)) := by
  have hKn := B.2.2.2.2.2.1.1 ci _ hc
  refine W.newcK B.1 B.2.1 B.2.2.2.1 (B.2.2.2.2.1 _ hcl) (B.2.2.2.2.1 _ hins) (B.2.2.2.2.1 _ hini) rfl hdg hcells hslots hKn.2.1 hW.1 fun H1 kC hkC e1 z1 o1 => kk H1 (i_born hW z1 o1 ?_)
  exact ⟨_, hc, (u_born ty B.2.2.2.2.1 hin hKn hkC e1 hty).to hfs⟩
theorem i_newI (B : i_B D C p s m args c cc mL own) (hW : i_W D sz n f s.heap H locs) {x : Int32} {N : Nat} (hn : ¬ x < 0) (hN : x.toNatClampNeg = N) (hbytes : N * componentBytes .int ≤ 536870912) (hcells : cells + 1 ≤ R.cells) (hslots : slots + N ≤ R.slots) (hdg : decode cc pc = .ok (.newarray .int, 2))
    (kk : ∀ H1 : Heap, i_W D sz (n + 1) (va_up f n (.inl (C 0, N, .inl (fun _ => 0)))) s.heap H1 locs → W p l e R s m args below meth c H1 locs (cells + 1) (slots + N) Q (F0 m (pc + 2) ls (.ref (sz + n) :: rest))) : W p l e R s m args below meth c H locs cells slots Q (F0 m pc ls (.int x :: rest)) := by
  refine va_newaK (atype := .int) B.1 B.2.1 (B.2.2.2.2.1 _ qac_int) rfl hdg rfl hn hN hbytes hcells hslots hW.1 fun H1 cA e1 z1 o1 hAr hNm => kk H1 (i_born hW z1 o1 ?_)
  have h2 : s.vm.findClass ("[" ++ (FieldType.int).toString) = some (C 0) := (B.2.2.2.2.2.1.2 0 _ rfl).2
  obtain rfl : cA = C 0 := Option.some.inj (hNm.symm.trans h2)
  exact e1
theorem i_newL (B : i_B D C p s m args c cc mL own) (hW : i_W D sz n f s.heap H locs) {x : Int32} {N : Nat} (hn : ¬ x < 0) (hN : x.toNatClampNeg = N) (hbytes : N * componentBytes .long ≤ 536870912) (hcells : cells + 1 ≤ R.cells) (hslots : slots + N ≤ R.slots) (hdg : decode cc pc = .ok (.newarray .long, 2))
    (kk : ∀ H1 : Heap, i_W D sz (n + 1) (va_up f n (.inl (C 1, N, .inr (.inl (fun _ => 0))))) s.heap H1 locs → W p l e R s m args below meth c H1 locs (cells + 1) (slots + N) Q (F0 m (pc + 2) ls (.ref (sz + n) :: rest))) : W p l e R s m args below meth c H locs cells slots Q (F0 m pc ls (.int x :: rest)) := by
  refine va_newaK (atype := .long) B.1 B.2.1 (B.2.2.2.2.1 _ qac_long) rfl hdg rfl hn hN hbytes hcells hslots hW.1 fun H1 cA e1 z1 o1 hAr hNm => kk H1 (i_born hW z1 o1 ?_)
  have h2 : s.vm.findClass ("[" ++ (FieldType.long).toString) = some (C 1) := (B.2.2.2.2.2.1.2 1 _ rfl).2
  obtain rfl : cA = C 1 := Option.some.inj (hNm.symm.trans h2)
  exact e1
theorem i_newQ (B : i_B D C p s m args c cc mL own) (hW : i_W D sz n f s.heap H locs) {E : String} {t index : Nat} (ht : (i_T C)[t]? = some (C t, .object E)) (hov : va_AO E s) (hcl : Cond.classLink own index E ∈ BIG) {x : Int32} {N : Nat} (hn : ¬ x < 0) (hN : x.toNatClampNeg = N) (hbytes : N * 4 ≤ 536870912) (hcells : cells + 1 ≤ R.cells) (hslots : slots + N ≤ R.slots) (hdg : decode cc pc = .ok (.anewarray index, 3))
    (kk : ∀ H1 : Heap, i_W D sz (n + 1) (va_up f n (.inl (C t, N, .inr (.inr (.inr (.inr (fun _ => none))))))) s.heap H1 locs → W p l e R s m args below meth c H1 locs (cells + 1) (slots + N) Q (F0 m (pc + 3) ls (.ref (sz + n) :: rest))) : W p l e R s m args below meth c H locs cells slots Q (F0 m pc ls (.int x :: rest)) := by
  subst hN
  refine W.anew B.1 B.2.1 B.2.2.2.1 (B.2.2.2.2.1 _ hcl) (va_AO.use hov) rfl hdg rfl hn hbytes hcells hslots fun cA kA comp f1 f2 f3 f4 => ?_
  obtain ⟨kA', comp', k1, k2, k3, k4⟩ := (B.2.2.2.2.2.1.2 t _ ht).2
  obtain rfl : cA = C t := Option.some.inj (f1.symm.trans k4)
  rw [hW.1]
  refine kk _ (i_born hW (by rw [Array.size_push, hW.1]) (fun q hq => by rw [Array.getElem?_push, if_neg (by rw [hW.1]; omega)]) ?_)
  show (H.push _)[sz + n]? = some (vp_cell _ _)
  rw [← hW.1, Array.getElem?_push_size, vp_cell_q]
  exact congrArg some (arrV_new _ _ _)
theorem i_upd {k : Nat} {x : va_E} {H0 H1 : Heap} {locs1 : List Loc} (hk : k < n) (hz : H1.size = sz + n) (h1 : va_P D vwCl ((i_ws sz n f).set k (sz + k, x)) H1) (h3 : va_S (fun q => sz ≤ q) H0 H1 locs1) : i_W D sz n (va_up f k x) H0 H1 locs1 := ⟨hz, by rw [← i_set hk]; exact h1, h3⟩
theorem i_get (B : i_B D C p s m args c cc mL own) (hW : i_W D sz n f s.heap H locs) {q ci k N index : Nat} {C0 : String} {T : u_T} {fs : List Value} (hq : q < n) (he : f q = .inr (ci, fs)) (hc : vwCl[ci]? = some (C0, T, N)) (hin : ∀ w ∈ u_ws C0 T N, w ∈ BIG) (hk : k < N) {ref : String} (hl : Cond.fieldLink own index ref (T k).2.1 (T k).2.2.1 ∈ BIG) (href : (T k).1 = ref) {v : Value} (hv : fs[k]? = some v) (hdg : decode cc pc = .ok (.getfield index, 3)) (kk : W p l e R s m args below meth c H locs cells slots Q (F0 m (pc + 3) ls (v :: rest))) : W p l e R s m args below meth c H locs cells slots Q (F0 m pc ls (.ref (sz + q) :: rest)) := by
  subst href
  exact va_get (C := C0) (T := T) (N := N) B.1 B.2.1 (Ts := BIG) B.2.2.2.2.1 hin B.2.2.2.1 B.2.2.2.2.2.1 hW.2.1 q (by rw [i_at hq, he]) hc k hk (B.2.2.2.2.1 _ hl) (fun _ h => h) hv hdg kk
theorem i_put (B : i_B D C p s m args c cc mL own) (hW : i_W D sz n f s.heap H locs) {q ci k N index : Nat} {C0 : String} {T : u_T} {fs : List Value} (hq : q < n) (he : f q = .inr (ci, fs)) (hc : vwCl[ci]? = some (C0, T, N)) (hin : ∀ w ∈ u_ws C0 T N, w ∈ BIG) (ty0 : Nat → FieldType) (hty : ∀ k, k < N → parseFieldDescriptor (T k).2.2.1 = some (ty0 k)) (hnm : ∀ a, a < N → ∀ b, b < N → a ≠ b → (T a).2.1 ≠ (T b).2.1) (hk : k < N) {ref : String} (hl : Cond.fieldLink own index ref (T k).2.1 (T k).2.2.1 ∈ BIG) (href : (T k).1 = ref) (hfin : (T k).2.2.2 = false) {ty : FieldType} {v : Value} (hd : parseFieldDescriptor (T k).2.2.1 = some ty) (hn : narrow ty v = v) (hfit : fits ty v = true) (hlen : k < fs.length) (hdg : decode cc pc = .ok (.putfield index, 3))
    (kk : ∀ (H1 : Heap) (locs1 : List Loc), i_W D sz n (va_up f q (.inr (ci, fs.set k v))) s.heap H1 locs1 → W p l e R s m args below meth c H1 locs1 cells slots Q (F0 m (pc + 3) ls (rest))) : W p l e R s m args below meth c H locs cells slots Q (F0 m pc ls (v :: .ref (sz + q) :: rest)) := by
  subst href
  have hts := B.2.2.2.2.1
  have hK := B.2.2.2.2.2.1
  have hap := va_apart (own := own) hts hin ty0 hty hnm hK hc
  have hee : (i_ws sz n f)[q]? = some (sz + q, .inr (ci, fs)) := by rw [i_at hq, he]
  obtain ⟨r, h1, cell, q1, q2, q3, q4⟩ := hW.2.1 q _ hee
  have hr : r = (C0, T, N) := Option.some.inj (h1.symm.trans hc)
  subst hr
  obtain ⟨hS, hfc, kC, hkC, hkind⟩ := hK.1 ci _ hc
  obtain ⟨cf, kf, fi, g, hi, hsl⟩ := hS k hk
  have hlay := hts _ (hin _ (u_in_lay hk))
  unfold u_lay at hlay
  rw [if_neg (by rw [hfin]; decide)] at hlay
  have hst := (u_facts hfc hkC (u_lays hts hin hk) hi).1
  have h6 := u_store hfc hkC hkind hlay hi hd hn hfit
  refine W.putK B.1 B.2.1 (f := g) ⟨B.2.2.2.1, hts _ hl, ⟨_, _, _, hi⟩, hst⟩ (by rw [q2]; exact h6) q1 q3 (by rw [hsl]; exact k2_hasslot (q4 k hk)) rfl rfl hdg fun H' e1 e2 e3 => ?_
  rw [hsl] at e1 ⊢
  exact kk H' _ (i_upd hq (e2.trans hW.1) (hW.2.1.set i_D hee ⟨_, hc, t_OB.to (V := updV (vp_V fs) k v) ⟨_, e1, q2, q3, t_set q4 hap hk v⟩ (fun j _ => vp_updV_set hlen v j)⟩ e3) (hW.2.2.put e2 e3 (Nat.le_add_right _ _)))
theorem i_putF (B : i_B D C p s m args c cc mL own) (hW : i_W D sz n f s.heap H locs) {q ci k N index : Nat} {C0 : String} {T : u_T} {fs : List Value} (hq : q < n) (he : f q = .inr (ci, fs)) (hc : vwCl[ci]? = some (C0, T, N)) (hin : ∀ w ∈ u_ws C0 T N, w ∈ BIG) (ty0 : Nat → FieldType) (hty : ∀ k, k < N → parseFieldDescriptor (T k).2.2.1 = some (ty0 k)) (hnm : ∀ a, a < N → ∀ b, b < N → a ≠ b → (T a).2.1 ≠ (T b).2.1) (hk : k < N) {ref : String} (hl : Cond.fieldLink own index ref (T k).2.1 (T k).2.2.1 ∈ BIG) (href : (T k).1 = ref) (hfin : (T k).2.2.2 = true) (hin2 : meth.name = "<init>") (hdecl : (T k).1 = own) {ty : FieldType} {v : Value} (hd : parseFieldDescriptor (T k).2.2.1 = some ty) (hn : narrow ty v = v) (hfit : fits ty v = true) (hlen : k < fs.length) (hdg : decode cc pc = .ok (.putfield index, 3))
    (kk : ∀ (H1 : Heap) (locs1 : List Loc), i_W D sz n (va_up f q (.inr (ci, fs.set k v))) s.heap H1 locs1 → W p l e R s m args below meth c H1 locs1 cells slots Q (F0 m (pc + 3) ls (rest))) : W p l e R s m args below meth c H locs cells slots Q (F0 m pc ls (v :: .ref (sz + q) :: rest)) := by
  subst href
  have hts := B.2.2.2.2.1
  have hK := B.2.2.2.2.2.1
  have hap := va_apart (own := own) hts hin ty0 hty hnm hK hc
  have hee : (i_ws sz n f)[q]? = some (sz + q, .inr (ci, fs)) := by rw [i_at hq, he]
  obtain ⟨r, h1, cell, q1, q2, q3, q4⟩ := hW.2.1 q _ hee
  have hr : r = (C0, T, N) := Option.some.inj (h1.symm.trans hc)
  subst hr
  obtain ⟨hS, hfc, kC, hkC, hkind⟩ := hK.1 ci _ hc
  obtain ⟨cf, kf, fi, g, hi, hsl⟩ := hS k hk
  have hlay := hts _ (hin _ (u_in_lay hk))
  unfold u_lay at hlay
  rw [if_pos hfin] at hlay
  have hst := (u_facts hfc hkC (u_lays hts hin hk) hi).1
  have hcf : m.cls = cf := by
    obtain ⟨_, _, c', _, _, _, -, -, hf', -, -, -, hown2, -⟩ := Cond.laysFinal_spec hlay
    have e1 : c' = cf := by have := hi.symm.trans hf'; simp at this; exact this.1.symm
    rw [hdecl] at hown2
    rw [← e1]; exact Option.some.inj (B.2.2.2.1.symm.trans hown2)
  have h6 := u_fits hfc hkC hkind (Or.inr hlay) hi hd hn hfit
  refine W.putFinK B.1 B.2.1 B.2.2.2.1 (hts _ hl) hi hst hcf hin2 (by rw [q2]; exact h6) q1 q3 (by rw [hsl]; exact k2_hasslot (q4 k hk)) rfl rfl hdg fun H' e1 e2 e3 => ?_
  rw [hsl] at e1 ⊢
  exact kk H' _ (i_upd hq (e2.trans hW.1) (hW.2.1.set i_D hee ⟨_, hc, t_OB.to (V := updV (vp_V fs) k v) ⟨_, e1, q2, q3, t_set q4 hap hk v⟩ (fun j _ => vp_updV_set hlen v j)⟩ e3) (hW.2.2.put e2 e3 (Nat.le_add_right _ _)))
theorem i_ast (B : i_B D C p s m args c cc mL own) (hW : i_W D sz n f s.heap H locs) {q N : Nat} {g : Nat → Int32} (hq : q < n) (he : f q = .inl (C 0, N, .inl g)) {i x : Int32} (hi : vp_in i N) (hdg : decode cc pc = .ok (.iastore, 1)) (kk : ∀ (H1 : Heap) (locs1 : List Loc), i_W D sz n (va_up f q (.inl (C 0, N, .inl (upd g i.toNatClampNeg x)))) s.heap H1 locs1 → W p l e R s m args below meth c H1 locs1 cells slots Q (F0 m (pc + 1) ls (rest))) : W p l e R s m args below meth c H locs cells slots Q (F0 m pc ls (.int x :: .int i :: .ref (sz + q) :: rest)) := by
  have hee : (i_ws sz n f)[q]? = some (sz + q, .inl (C 0, N, .inl g)) := by rw [i_at hq, he]
  refine W.iast B.1 B.2.1 (hW.2.1 q _ hee) ((B.2.2.2.2.2.1.2 0 _ rfl).1 N (fun j => .int (g j))) (fun q => by cases q) (by show ¬ (i < 0 ∨ (arrV _ _ _).slots.size ≤ _); rw [arrV_size]; exact hi) rfl rfl hdg fun H1 e z oq => ?_
  refine kk H1 _ (i_upd hq (z.trans hW.1) (hW.2.1.set i_D hee ?_ oq) (hW.2.2.put z oq (Nat.le_add_right _ _)))
  show H1[sz + q]? = some (vp_cell _ _)
  rw [e]
  rw [vp_cell_i, vp_cell_i, arrV_store]
  congr 2
  funext q
  by_cases hq : q = i.toNatClampNeg
  · subst hq
    simp [updV, upd]
  · simp [updV, upd, hq]
theorem i_astq (B : i_B D C p s m args c cc mL own) (hW : i_W D sz n f s.heap H locs) {q N t qk ci : Nat} {E : String} {r : vw_C} {vs : List Value} {g : Nat → Option Nat} (ht : (i_T C)[t]? = some (C t, .object E)) (hq : q < n) (he : f q = .inl (C t, N, .inr (.inr (.inr (.inr g))))) (hqk : qk < n) (hv : f qk = .inr (ci, vs)) (hc : vwCl[ci]? = some r) (hca : r.1 = E ∨ va_Nw (.castable r.1 E) s) {i : Int32} (hi : vp_in i N) (hdg : decode cc pc = .ok (.aastore, 1)) (kk : ∀ (H1 : Heap) (locs1 : List Loc), i_W D sz n (va_up f q (.inl (C t, N, .inr (.inr (.inr (.inr (va_up g i.toNatClampNeg (some (sz + qk))))))))) s.heap H1 locs1 → W p l e R s m args below meth c H1 locs1 cells slots Q (F0 m (pc + 1) ls (rest))) : W p l e R s m args below meth c H locs cells slots Q (F0 m pc ls (.ref (sz + qk) :: .int i :: .ref (sz + q) :: rest)) := by
  have hee : (i_ws sz n f)[q]? = some (sz + q, .inl (C t, N, .inr (.inr (.inr (.inr g))))) := by rw [i_at hq, he]
  have hvv : (i_ws sz n f)[qk]? = some (sz + qk, .inr (ci, vs)) := by rw [i_at hqk, hv]
  have hK := B.2.2.2.2.2.1
  have hlt : i.toNatClampNeg < N := Nat.not_le.mp fun q => hi (Or.inr q)
  have h0 : ¬ i < 0 := fun q => hi (Or.inl q)
  obtain ⟨r', hr', cellV, g1, g2, g3, -⟩ := hW.2.1 qk _ hvv
  have hcls := (hK.1 ci r hc).2
  obtain ⟨kA, comp, k1, k2, k3, -⟩ := (hK.2 t _ ht).2
  obtain ⟨kE, hkE, -⟩ := Vm.findClass_spec k3
  have f3 : s.vm.assignable (D.1 ci) comp = true := by
    rcases hca with rfl | hca
    · cases hcls.1.symm.trans k3
      exact va_asg _ _
    · obtain ⟨c0, t1, f1, f2, f3⟩ := Cond.castable_spec (va_Nw.use (A := args) rfl hca)
      cases hcls.1.symm.trans f1
      cases k3.symm.trans f2
      exact f3
  obtain ⟨kC, hkC, -⟩ := hcls.2
  refine W.aast B.1 B.2.1 (hW.2.1 q _ hee) (fun q h => by cases h) (fun h => by cases h) k1 k2 rfl hkE ⟨h0, by show _ < (arrV _ _ _).slots.size; rw [arrV_size]; exact hlt⟩ g1 (fun q h => by rw [g3] at h; cases h) (by rw [g2]; exact hkC) (by rw [g2]; exact f3) rfl rfl hdg fun H1 e z oq => ?_
  refine kk H1 _ (i_upd hq (z.trans hW.1) (hW.2.1.set i_D hee ?_ oq) (hW.2.2.put z oq (Nat.le_add_right _ _)))
  show H1[sz + q]? = some (vp_cell _ _)
  rw [e]
  rw [vp_cell_q, vp_cell_q, arrV_store]
  congr 2
  funext q
  by_cases hq : q = i.toNatClampNeg
  · subst hq
    simp [updV, va_up, va_rf]
  · simp [updV, va_up, hq]
theorem i_go {mc ms n' : Nat} {f' : Nat → va_E} {a : Array Value} {st : List Value} (hr : va_Run p l e R s m args below meth c H locs cells slots mc ms (F0 m pc ls st) rest (i_Qc D sz n' f' a) (fun q => sz ≤ q)) (hW : i_W D sz n f s.heap H locs) (kk : ∀ (H1 : Heap) (locs1 : List Loc), i_W D sz n' f' s.heap H1 locs1 → W p l e R s m args below meth c H1 locs1 (cells + mc) (slots + ms) Q (F0 m (pc + 3) ls (rest))) : W p l e R s m args below meth c H locs cells slots Q (F0 m pc ls (st)) := by
  intro T hT X
  obtain ⟨v, st₀, t, T', L, h0, X', hL, e1, e2, ⟨hv, hz, hP, hz2, hk⟩, stp⟩ := hr T hT X
  cases hv
  rw [h0] at hz2 hk
  obtain ⟨t2, a1, b1⟩ := kk T'.heap (locs ++ L) ⟨by rw [e1]; exact hz, by rw [e1]; exact hP, Nat.le_trans hW.2.2.1 (by rw [e1]; exact hz2), fun q h1 h2 => by rw [e1, hk q (Nat.lt_of_lt_of_le h1 hW.2.2.1) h2]; exact hW.2.2.2.1 q h1 h2, fun q hq => by
    rcases List.mem_append.mp hq with h | h
    · exact hW.2.2.2.2 q h
    · exact hL q h⟩ T' rfl X'
  exact ⟨t2, stp t2 a1, b1⟩
theorem i_blind {av : List Value} : FrameBlind (i_Pc D C sz av n f) := fun a U g mk q => ⟨q.1, q.2.1, q.2.2.1, q.2.2.2.blind⟩
def i_Sc (y : MethodName) (c2 : ByteArray) (mL2 k : Nat) : Prop := Cond.initialized y.cls ∈ BIG ∧ Cond.code y c2 mL2 none ∈ BIG ∧ (y.cls ≠ "java/lang/invoke/MethodHandle" ∧ y.cls ≠ "java/lang/invoke/VarHandle" ∧ (parseMethodDescriptor y.desc).map (fun d => d.parameters.length) = some k) ∧ y.name = "<init>" ∧ Cond.instanceMethod y ∈ BIG
theorem i_c (B : i_B D C p s m args c cc mL own) (hW : i_W D sz n f s.heap H locs) {y : MethodName} {c2 : ByteArray} {mL2 fr lo mc ms k idx n' b : Nat} {f' : Nat → va_E} {As st : List Value} (hF : i_Fn l D C sz y c2 mL2 fr lo mc ms (.ref b :: As) n f n' f') (hs : i_Sc y c2 mL2 k) (hv : Cond.methodLink own idx y ∈ BIG) (hR : fr + 1 ≤ R.frames ∧ 8 + (mL2 + 11) + lo ≤ R.locals) (hcs : cells + mc ≤ R.cells ∧ slots + ms ≤ R.slots) (hn : As.length = k) (hsz : ls.size = mL) (hst : st = As.reverse ++ .ref b :: rest) (hrm : (rest.map fun v => v.category).sum ≤ 8) (hdg : decode cc pc = .ok (.invokespecial idx, 3)) (kk : ∀ (H1 : Heap) (locs1 : List Loc), i_W D sz n' f' s.heap H1 locs1 → W p l e R s m args below meth c H1 locs1 (cells + mc) (slots + ms) Q (F0 m (pc + 3) ls (rest))) : W p l e R s m args below meth c H locs cells slots Q (F0 m pc ls (st)) := by
  refine i_go (va_runI ⟨B.1, B.2.1, B.2.2.1, B.2.2.2.1, B.2.2.2.2.1⟩ hF ⟨callB_of k B.2.2.2.2.1 (z_good hs.2.1) rfl rfl rfl (B.2.2.2.2.1 _ hs.1) (B.2.2.2.2.1 _ hv) hs.2.2.1 hR, hs.2.2.2.1, B.2.2.2.2.1 _ hs.2.2.2.2⟩ ⟨i_blind, fun U hU hw => ⟨rfl, by rw [hU]; exact hW.1, by rw [hU]; exact hW.2.1, B.2.2.2.2.2.pass hw⟩⟩ rfl hn hsz hst (lv_room hrm) hdg hcs) hW kk
theorem i_cN (B : i_B D C p s m args c cc mL own) (hW : i_W D sz n f s.heap H locs) {y : MethodName} {c2 : ByteArray} {mL2 fr lo mc ms k idx n' b : Nat} {f' : Nat → va_E} {As st : List Value} (hF : i_Fn l D C sz y c2 mL2 fr lo mc ms (.ref b :: As) n f n' f') (hs : i_Sc y c2 mL2 k) {host : String} (hv : Cond.methodLinkNest own idx y host ∈ NW) (hR : fr + 1 ≤ R.frames ∧ 8 + (mL2 + 11) + lo ≤ R.locals) (hcs : cells + mc ≤ R.cells ∧ slots + ms ≤ R.slots) (hn : As.length = k) (hsz : ls.size = mL) (hst : st = As.reverse ++ .ref b :: rest) (hrm : (rest.map fun v => v.category).sum ≤ 8) (hdg : decode cc pc = .ok (.invokespecial idx, 3)) (kk : ∀ (H1 : Heap) (locs1 : List Loc), i_W D sz n' f' s.heap H1 locs1 → W p l e R s m args below meth c H1 locs1 (cells + mc) (slots + ms) Q (F0 m (pc + 3) ls (rest))) : W p l e R s m args below meth c H locs cells slots Q (F0 m pc ls (st)) := by
  refine i_go (va_runIN (host := host) ⟨B.1, B.2.1, B.2.2.1, B.2.2.2.1, B.2.2.2.2.1⟩ hF ⟨va_cnB k B.2.2.2.2.1 (z_good hs.2.1) rfl rfl rfl (B.2.2.2.2.2.2.1 _ hv) (B.2.2.2.2.1 _ hs.1) hs.2.2.1 hR, hs.2.2.2.1, B.2.2.2.2.1 _ hs.2.2.2.2⟩ ⟨i_blind, fun U hU hw => ⟨rfl, by rw [hU]; exact hW.1, by rw [hU]; exact hW.2.1, B.2.2.2.2.2.pass hw⟩⟩ rfl hn hsz hst (lv_room hrm) hdg hcs) hW kk
theorem i_rv (B : i_B D C p s m args c cc mL own) (hr : meth.sig.returnType = none) (hlk : meth.locks = false) (hW : i_W D sz n f s.heap H locs) (hdg : decode cc pc = .ok (.return_, 1)) : W p l e R s m args below meth c H locs cells slots (MQ below (i_Qc D sz n f) args s cells slots (fun q => sz ≤ q)) (F0 m pc ls []) := W.vret B.1 B.2.1 hr (fun t ht _ => ⟨rfl, by rw [ht]; exact hW.1, by rw [ht]; exact hW.2.1, hW.2.2.F ht⟩) hW.2.2.2.2 hdg hlk
end IROWS
