/-! THE CLAIM OUT OF ONE WALK OF THE LAW'S BODY. Your part is whole_start (and what it stands on); all else here is the same for every law, but numbers. -/
def R_law : String := "WhisperSeatsLaw"
def lw_P (b : Addr) (xs : List Int32) (args : Array Value) (s : State) : Prop := args = #[.ref b] ∧ s.IntsAt b xs ∧ xs.length ≤ 3072 ∧ (Jvm.Cond.and given_1 narrow_1).before args s = true
def lw_Q (_ : Array Value) (s : State) (o : Outcome) (t : State) : Prop := o = .returned (some (.int 1)) ∧ Framed s o t [] 600000 7302249
def lw_Z (below : List Frame) (a : Array Value) (s : State) : State → Prop := fun t => ∃ o, t.status = .running ∧ Ended t below o ∧ lw_Q a s o t
/-- the law's own end, with 1 on the stack, nothing written that was there before, its room as the claim has it -/
theorem lw_ret {p : Program} {l : Launch} {e : Env} {s : State} {m : MethodId} {below : List Frame} {meth : Method} {c : Code} {b : Nat} (hx : p.tables.exec = Jvm.exec) (hb : c.code = code) (hr : meth.sig.returnType = ret) (hlocks : meth.locks = false) {pc : Nat} {H : Heap} {ls : Array Slot} (hdg : decode code pc = .ok (.ireturn, 1)) : W p l e room_1 s m #[Value.ref b] below meth c H [] 600000 7302249 (lw_Z below #[Value.ref b] s) (F0 m pc ls [.int 1]) := by
  intro T hT X
  obtain ⟨fs, hret, hrun, hended, hW, hframe⟩ := X.leave (v := some (.int 1)) (hlocks := hlocks) (fun h => by rw [hr] at h; cases h)
  have hmeth' : T.vm.method? m = some meth := X.method'
  refine ⟨T.setFrames fs, ?_, .returned (some (.int 1)), hrun, hended, rfl, ⟨_, rfl⟩, hW, hframe⟩
  jvm_step X.here [X.here.top, hx, hb, hdg, hmeth', hr, ret, narrow_b1]
  (try refine ⟨rfl, ?_⟩); (try refine ⟨rfl, ?_⟩)
  first | (intro acts; rw [hret _ acts rfl rfl rfl]) | rw [hret _ _ rfl rfl rfl]
  exact Steps.refl _
/-- what holds at the law's entry: the machine, the code, the tables' words (any of lw_tbl by 'hts w (by decide +kernel)'), the script of L ints xs at the cell b, what the Statement gives of the start (any of its parts by flat_of_before) -/
def lw_At (p : Program) (s : State) (m : MethodId) (meth : Method) (c : Code) (b L : Nat) (xs : Nat → Int32) : Prop :=
  p.tables.exec = Jvm.exec ∧ c.code = code ∧ meth.sig.returnType = ret ∧ c.maxLocals = 4 ∧ s.vm.findClass R_law = some m.cls ∧ (∀ w ∈ lw_tbl, w.before #[Value.ref b] s = true) ∧ va_X b L xs s s.heap ∧ b < s.heap.size ∧ meth.locks = false ∧ (Jvm.Cond.and given_1 narrow_1).before #[Value.ref b] s = true
def L_law_P18 (Γ : Zg) (xs : Nat → Int32) (L : Nat) : Nat → Zm → Nat → Nat → Int32 → Option Int32
  | 0, _, _, _, _ => none
  | n + 1, M, l1, l2, l3 => if ((nI L) - (6 : Int32)) < l3 then (some (1 : Int32)) else (if z_ix l3 L = true then (if ((xs l3.toNatClampNeg) &&& (63 : Int32)) = (0 : Int32) then (if z_ix (l3 + (1 : Int32)) L = true then (z_bp (X10_sham Γ M l1 (xs ((l3 + (1 : Int32)).toNatClampNeg))) (fun r5 M6 => if z_ix (l3 + (1 : Int32)) L = true then (z_bp (X11_sham Γ M6 l2 (xs ((l3 + (1 : Int32)).toNatClampNeg))) (fun r9 M10 => if r5 = r9 then (L_law_P18 Γ xs L n M10 l1 l2 (l3 + (6 : Int32))) else (some (0 : Int32)))) else none)) else none) else if ((xs l3.toNatClampNeg) &&& (63 : Int32)) = (1 : Int32) then (if z_ix (l3 + (1 : Int32)) L = true then (if z_ix (l3 + (2 : Int32)) L = true then (z_bp (X10_who Γ M l1 (xs ((l3 + (1 : Int32)).toNatClampNeg)) (xs ((l3 + (2 : Int32)).toNatClampNeg))) (fun r16 M17 => if z_ix (l3 + (1 : Int32)) L = true then (if z_ix (l3 + (2 : Int32)) L = true then (z_bp (X11_who Γ M17 l2 (xs ((l3 + (1 : Int32)).toNatClampNeg)) (xs ((l3 + (2 : Int32)).toNatClampNeg))) (fun r21 M22 => if r16 = r21 then (L_law_P18 Γ xs L n M22 l1 l2 (l3 + (6 : Int32))) else (some (0 : Int32)))) else none) else none)) else none) else none) else if ((xs l3.toNatClampNeg) &&& (63 : Int32)) = (2 : Int32) then (if z_ix (l3 + (1 : Int32)) L = true then (z_bp (X10_person Γ M l1 (xs ((l3 + (1 : Int32)).toNatClampNeg))) (fun r27 M28 => if z_ix (l3 + (1 : Int32)) L = true then (z_bp (X11_person Γ M28 l2 (xs ((l3 + (1 : Int32)).toNatClampNeg))) (fun r31 M32 => if r27 = r31 then (L_law_P18 Γ xs L n M32 l1 l2 (l3 + (6 : Int32))) else (some (0 : Int32)))) else none)) else none) else if ((xs l3.toNatClampNeg) &&& (63 : Int32)) = (3 : Int32) then (if z_ix (l3 + (1 : Int32)) L = true then (if z_ix (l3 + (2 : Int32)) L = true then (z_bp (X10_of Γ M l1 (xs ((l3 + (1 : Int32)).toNatClampNeg)) (xs ((l3 + (2 : Int32)).toNatClampNeg))) (fun r38 M39 => if z_ix (l3 + (1 : Int32)) L = true then (if z_ix (l3 + (2 : Int32)) L = true then (z_bp (X11_of Γ M39 l2 (xs ((l3 + (1 : Int32)).toNatClampNeg)) (xs ((l3 + (2 : Int32)).toNatClampNeg))) (fun r43 M44 => if r38 = r43 then (L_law_P18 Γ xs L n M44 l1 l2 (l3 + (6 : Int32))) else (some (0 : Int32)))) else none) else none)) else none) else none) else if ((xs l3.toNatClampNeg) &&& (63 : Int32)) = (4 : Int32) then (if z_ix (l3 + (1 : Int32)) L = true then (if z_ix (l3 + (2 : Int32)) L = true then (if z_ix (l3 + (3 : Int32)) L = true then (z_bp (X10_set Γ M l1 (xs ((l3 + (1 : Int32)).toNatClampNeg)) (xs ((l3 + (2 : Int32)).toNatClampNeg)) (xs ((l3 + (3 : Int32)).toNatClampNeg))) (fun r51 M52 => if z_ix (l3 + (1 : Int32)) L = true then (if z_ix (l3 + (2 : Int32)) L = true then (if z_ix (l3 + (3 : Int32)) L = true then (z_bp (X11_set Γ M52 l2 (xs ((l3 + (1 : Int32)).toNatClampNeg)) (xs ((l3 + (2 : Int32)).toNatClampNeg)) (xs ((l3 + (3 : Int32)).toNatClampNeg))) (fun r57 M58 => if r51 = r57 then (L_law_P18 Γ xs L n M58 l1 l2 (l3 + (6 : Int32))) else (some (0 : Int32)))) else none) else none) else none)) else none) else none) else none) else if ((xs l3.toNatClampNeg) &&& (63 : Int32)) = (5 : Int32) then (if z_ix (l3 + (1 : Int32)) L = true then (if z_ix (l3 + (2 : Int32)) L = true then (z_bp (X10_turn Γ M l1 (xs ((l3 + (1 : Int32)).toNatClampNeg)) (xs ((l3 + (2 : Int32)).toNatClampNeg))) (fun r64 M65 => if z_ix (l3 + (1 : Int32)) L = true then (if z_ix (l3 + (2 : Int32)) L = true then (z_bp (X11_turn Γ M65 l2 (xs ((l3 + (1 : Int32)).toNatClampNeg)) (xs ((l3 + (2 : Int32)).toNatClampNeg))) (fun r69 M70 => if r64 = r69 then (L_law_P18 Γ xs L n M70 l1 l2 (l3 + (6 : Int32))) else (some (0 : Int32)))) else none) else none)) else none) else none) else if ((xs l3.toNatClampNeg) &&& (63 : Int32)) = (6 : Int32) then (if z_ix (l3 + (1 : Int32)) L = true then (if z_ix (l3 + (2 : Int32)) L = true then (z_bp (X10_as Γ M l1 (xs ((l3 + (1 : Int32)).toNatClampNeg)) (xs ((l3 + (2 : Int32)).toNatClampNeg))) (fun r76 M77 => if z_ix (l3 + (1 : Int32)) L = true then (if z_ix (l3 + (2 : Int32)) L = true then (z_bp (X11_as Γ M77 l2 (xs ((l3 + (1 : Int32)).toNatClampNeg)) (xs ((l3 + (2 : Int32)).toNatClampNeg))) (fun r81 M82 => if r76 = r81 then (L_law_P18 Γ xs L n M82 l1 l2 (l3 + (6 : Int32))) else (some (0 : Int32)))) else none) else none)) else none) else none) else if ((xs l3.toNatClampNeg) &&& (63 : Int32)) = (7 : Int32) then (if z_ix (l3 + (1 : Int32)) L = true then (if z_ix (l3 + (2 : Int32)) L = true then (z_bp (X10_sit Γ M l1 (xs ((l3 + (1 : Int32)).toNatClampNeg)) (xs ((l3 + (2 : Int32)).toNatClampNeg))) (fun r88 M89 => if z_ix (l3 + (1 : Int32)) L = true then (if z_ix (l3 + (2 : Int32)) L = true then (z_bp (X11_sit Γ M89 l2 (xs ((l3 + (1 : Int32)).toNatClampNeg)) (xs ((l3 + (2 : Int32)).toNatClampNeg))) (fun r93 M94 => if r88 = r93 then (L_law_P18 Γ xs L n M94 l1 l2 (l3 + (6 : Int32))) else (some (0 : Int32)))) else none) else none)) else none) else none) else if ((xs l3.toNatClampNeg) &&& (63 : Int32)) = (8 : Int32) then (if z_ix (l3 + (1 : Int32)) L = true then (if z_ix (l3 + (2 : Int32)) L = true then (z_bp (X10_trusts Γ M l1 (xs ((l3 + (1 : Int32)).toNatClampNeg)) (xs ((l3 + (2 : Int32)).toNatClampNeg))) (fun r100 M101 => if z_ix (l3 + (1 : Int32)) L = true then (if z_ix (l3 + (2 : Int32)) L = true then (z_bp (X11_trusts Γ M101 l2 (xs ((l3 + (1 : Int32)).toNatClampNeg)) (xs ((l3 + (2 : Int32)).toNatClampNeg))) (fun r105 M106 => if r100 = r105 then (L_law_P18 Γ xs L n M106 l1 l2 (l3 + (6 : Int32))) else (some (0 : Int32)))) else none) else none)) else none) else none) else if ((xs l3.toNatClampNeg) &&& (63 : Int32)) = (9 : Int32) then (if z_ix (l3 + (1 : Int32)) L = true then (z_bp (X10_hours Γ M l1 (xs ((l3 + (1 : Int32)).toNatClampNeg))) (fun r111 M112 => if z_ix (l3 + (1 : Int32)) L = true then (z_bp (X11_hours Γ M112 l2 (xs ((l3 + (1 : Int32)).toNatClampNeg))) (fun r115 M116 => if r111 = r115 then (L_law_P18 Γ xs L n M116 l1 l2 (l3 + (6 : Int32))) else (some (0 : Int32)))) else none)) else none) else if ((xs l3.toNatClampNeg) &&& (63 : Int32)) = (10 : Int32) then (if z_ix (l3 + (1 : Int32)) L = true then (z_bp (X10_now Γ M l1 (xs ((l3 + (1 : Int32)).toNatClampNeg))) (fun r121 M122 => if z_ix (l3 + (1 : Int32)) L = true then (z_bp (X11_now Γ M122 l2 (xs ((l3 + (1 : Int32)).toNatClampNeg))) (fun r125 M126 => if r121 = r125 then (L_law_P18 Γ xs L n M126 l1 l2 (l3 + (6 : Int32))) else (some (0 : Int32)))) else none)) else none) else if ((xs l3.toNatClampNeg) &&& (63 : Int32)) = (11 : Int32) then (if z_ix (l3 + (1 : Int32)) L = true then (if z_ix (l3 + (2 : Int32)) L = true then (if z_ix (l3 + (3 : Int32)) L = true then (z_bp (X10_on Γ M l1 (xs ((l3 + (1 : Int32)).toNatClampNeg)) (xs ((l3 + (2 : Int32)).toNatClampNeg)) (xs ((l3 + (3 : Int32)).toNatClampNeg))) (fun r133 M134 => if z_ix (l3 + (1 : Int32)) L = true then (if z_ix (l3 + (2 : Int32)) L = true then (if z_ix (l3 + (3 : Int32)) L = true then (z_bp (X11_on Γ M134 l2 (xs ((l3 + (1 : Int32)).toNatClampNeg)) (xs ((l3 + (2 : Int32)).toNatClampNeg)) (xs ((l3 + (3 : Int32)).toNatClampNeg))) (fun r139 M140 => if r133 = r139 then (L_law_P18 Γ xs L n M140 l1 l2 (l3 + (6 : Int32))) else (some (0 : Int32)))) else none) else none) else none)) else none) else none) else none) else if ((xs l3.toNatClampNeg) &&& (63 : Int32)) = (12 : Int32) then (if z_ix (l3 + (1 : Int32)) L = true then (if z_ix (l3 + (2 : Int32)) L = true then (z_bp (X10_knows Γ M l1 (xs ((l3 + (1 : Int32)).toNatClampNeg)) (xs ((l3 + (2 : Int32)).toNatClampNeg))) (fun r146 M147 => if z_ix (l3 + (1 : Int32)) L = true then (if z_ix (l3 + (2 : Int32)) L = true then (z_bp (X11_knows Γ M147 l2 (xs ((l3 + (1 : Int32)).toNatClampNeg)) (xs ((l3 + (2 : Int32)).toNatClampNeg))) (fun r151 M152 => if r146 = r151 then (L_law_P18 Γ xs L n M152 l1 l2 (l3 + (6 : Int32))) else (some (0 : Int32)))) else none) else none)) else none) else none) else if ((xs l3.toNatClampNeg) &&& (63 : Int32)) = (13 : Int32) then (if z_ix (l3 + (1 : Int32)) L = true then (z_bp (X10_out Γ M l1 (xs ((l3 + (1 : Int32)).toNatClampNeg))) (fun r157 M158 => if z_ix (l3 + (1 : Int32)) L = true then (z_bp (X11_out Γ M158 l2 (xs ((l3 + (1 : Int32)).toNatClampNeg))) (fun r161 M162 => if r157 = r161 then (L_law_P18 Γ xs L n M162 l1 l2 (l3 + (6 : Int32))) else (some (0 : Int32)))) else none)) else none) else if ((xs l3.toNatClampNeg) &&& (63 : Int32)) = (14 : Int32) then (if z_ix (l3 + (1 : Int32)) L = true then (if z_ix (l3 + (2 : Int32)) L = true then (z_bp (X10_meet Γ M l1 (xs ((l3 + (1 : Int32)).toNatClampNeg)) (xs ((l3 + (2 : Int32)).toNatClampNeg))) (fun r168 M169 => if z_ix (l3 + (1 : Int32)) L = true then (if z_ix (l3 + (2 : Int32)) L = true then (z_bp (X11_meet Γ M169 l2 (xs ((l3 + (1 : Int32)).toNatClampNeg)) (xs ((l3 + (2 : Int32)).toNatClampNeg))) (fun r173 M174 => if r168 = r173 then (L_law_P18 Γ xs L n M174 l1 l2 (l3 + (6 : Int32))) else (some (0 : Int32)))) else none) else none)) else none) else none) else if ((xs l3.toNatClampNeg) &&& (63 : Int32)) = (15 : Int32) then (if z_ix (l3 + (1 : Int32)) L = true then (if z_ix (l3 + (2 : Int32)) L = true then (z_bp (X10_kind Γ M l1 (xs ((l3 + (1 : Int32)).toNatClampNeg)) (xs ((l3 + (2 : Int32)).toNatClampNeg))) (fun r180 M181 => if z_ix (l3 + (1 : Int32)) L = true then (if z_ix (l3 + (2 : Int32)) L = true then (z_bp (X11_kind Γ M181 l2 (xs ((l3 + (1 : Int32)).toNatClampNeg)) (xs ((l3 + (2 : Int32)).toNatClampNeg))) (fun r185 M186 => if r180 = r185 then (L_law_P18 Γ xs L n M186 l1 l2 (l3 + (6 : Int32))) else (some (0 : Int32)))) else none) else none)) else none) else none) else if ((xs l3.toNatClampNeg) &&& (63 : Int32)) = (16 : Int32) then (if z_ix (l3 + (1 : Int32)) L = true then (if z_ix (l3 + (2 : Int32)) L = true then (z_bp (X10_forget Γ M l1 (xs ((l3 + (1 : Int32)).toNatClampNeg)) (xs ((l3 + (2 : Int32)).toNatClampNeg))) (fun r192 M193 => if z_ix (l3 + (1 : Int32)) L = true then (if z_ix (l3 + (2 : Int32)) L = true then (z_bp (X11_forget Γ M193 l2 (xs ((l3 + (1 : Int32)).toNatClampNeg)) (xs ((l3 + (2 : Int32)).toNatClampNeg))) (fun r197 M198 => if r192 = r197 then (L_law_P18 Γ xs L n M198 l1 l2 (l3 + (6 : Int32))) else (some (0 : Int32)))) else none) else none)) else none) else none) else if ((xs l3.toNatClampNeg) &&& (63 : Int32)) = (17 : Int32) then (if z_ix (l3 + (1 : Int32)) L = true then (if z_ix (l3 + (2 : Int32)) L = true then (z_bp (X10_confide Γ M l1 (xs ((l3 + (1 : Int32)).toNatClampNeg)) (xs ((l3 + (2 : Int32)).toNatClampNeg))) (fun r204 M205 => if z_ix (l3 + (1 : Int32)) L = true then (if z_ix (l3 + (2 : Int32)) L = true then (z_bp (X11_confide Γ M205 l2 (xs ((l3 + (1 : Int32)).toNatClampNeg)) (xs ((l3 + (2 : Int32)).toNatClampNeg))) (fun r209 M210 => if r204 = r209 then (L_law_P18 Γ xs L n M210 l1 l2 (l3 + (6 : Int32))) else (some (0 : Int32)))) else none) else none)) else none) else none) else if ((xs l3.toNatClampNeg) &&& (63 : Int32)) = (18 : Int32) then (if z_ix (l3 + (1 : Int32)) L = true then (if z_ix (l3 + (2 : Int32)) L = true then (z_bp (X10_enough Γ M l1 (xs ((l3 + (1 : Int32)).toNatClampNeg)) (xs ((l3 + (2 : Int32)).toNatClampNeg))) (fun r216 M217 => if z_ix (l3 + (1 : Int32)) L = true then (if z_ix (l3 + (2 : Int32)) L = true then (z_bp (X11_enough Γ M217 l2 (xs ((l3 + (1 : Int32)).toNatClampNeg)) (xs ((l3 + (2 : Int32)).toNatClampNeg))) (fun r221 M222 => if r216 = r221 then (L_law_P18 Γ xs L n M222 l1 l2 (l3 + (6 : Int32))) else (some (0 : Int32)))) else none) else none)) else none) else none) else if ((xs l3.toNatClampNeg) &&& (63 : Int32)) = (19 : Int32) then (if z_ix (l3 + (1 : Int32)) L = true then (z_bp (X10_doubt Γ M l1 (xs ((l3 + (1 : Int32)).toNatClampNeg))) (fun r227 M228 => if z_ix (l3 + (1 : Int32)) L = true then (z_bp (X11_doubt Γ M228 l2 (xs ((l3 + (1 : Int32)).toNatClampNeg))) (fun r231 M232 => if r227 = r231 then (L_law_P18 Γ xs L n M232 l1 l2 (l3 + (6 : Int32))) else (some (0 : Int32)))) else none)) else none) else if ((xs l3.toNatClampNeg) &&& (63 : Int32)) = (20 : Int32) then (if z_ix (l3 + (1 : Int32)) L = true then (z_bp (X10_wisest Γ M l1 (xs ((l3 + (1 : Int32)).toNatClampNeg))) (fun r237 M238 => if z_ix (l3 + (1 : Int32)) L = true then (z_bp (X11_wisest Γ M238 l2 (xs ((l3 + (1 : Int32)).toNatClampNeg))) (fun r241 M242 => if r237 = r241 then (L_law_P18 Γ xs L n M242 l1 l2 (l3 + (6 : Int32))) else (some (0 : Int32)))) else none)) else none) else if ((xs l3.toNatClampNeg) &&& (63 : Int32)) = (21 : Int32) then (if z_ix (l3 + (1 : Int32)) L = true then (if z_ix (l3 + (2 : Int32)) L = true then (z_bp (X10_feed Γ M l1 (xs ((l3 + (1 : Int32)).toNatClampNeg)) (xs ((l3 + (2 : Int32)).toNatClampNeg))) (fun r248 M249 => if z_ix (l3 + (1 : Int32)) L = true then (if z_ix (l3 + (2 : Int32)) L = true then (z_bp (X11_feed Γ M249 l2 (xs ((l3 + (1 : Int32)).toNatClampNeg)) (xs ((l3 + (2 : Int32)).toNatClampNeg))) (fun r253 M254 => if r248 = r253 then (L_law_P18 Γ xs L n M254 l1 l2 (l3 + (6 : Int32))) else (some (0 : Int32)))) else none) else none)) else none) else none) else if ((xs l3.toNatClampNeg) &&& (63 : Int32)) = (22 : Int32) then (z_lp (X10_wipe Γ M l1) (fun r258 M259 => z_lp (X11_wipe M259 l2) (fun r261 M262 => if r258 = r261 then (L_law_P18 Γ xs L n M262 l1 l2 (l3 + (6 : Int32))) else (some (0 : Int32))))) else if ((xs l3.toNatClampNeg) &&& (63 : Int32)) = (23 : Int32) then (z_bp (X10_park Γ M l1) (fun r266 M267 => z_bp (X11_park Γ M267 l2) (fun r269 M270 => if r266 = r269 then (L_law_P18 Γ xs L n M270 l1 l2 (l3 + (6 : Int32))) else (some (0 : Int32))))) else if ((xs l3.toNatClampNeg) &&& (63 : Int32)) = (24 : Int32) then (if z_ix (l3 + (1 : Int32)) L = true then (if z_ix (l3 + (2 : Int32)) L = true then (if z_ix (l3 + (3 : Int32)) L = true then (z_bp (X10_sheet Γ M l1 (xs ((l3 + (1 : Int32)).toNatClampNeg)) (xs ((l3 + (2 : Int32)).toNatClampNeg)) (xs ((l3 + (3 : Int32)).toNatClampNeg))) (fun r277 M278 => if z_ix (l3 + (1 : Int32)) L = true then (if z_ix (l3 + (2 : Int32)) L = true then (if z_ix (l3 + (3 : Int32)) L = true then (z_bp (X11_sheet Γ M278 l2 (xs ((l3 + (1 : Int32)).toNatClampNeg)) (xs ((l3 + (2 : Int32)).toNatClampNeg)) (xs ((l3 + (3 : Int32)).toNatClampNeg))) (fun r283 M284 => if r277 = r283 then (L_law_P18 Γ xs L n M284 l1 l2 (l3 + (6 : Int32))) else (some (0 : Int32)))) else none) else none) else none)) else none) else none) else none) else if ((xs l3.toNatClampNeg) &&& (63 : Int32)) = (25 : Int32) then (if z_ix (l3 + (1 : Int32)) L = true then (if z_ix (l3 + (2 : Int32)) L = true then (if z_ix (l3 + (3 : Int32)) L = true then (if z_ix (l3 + (4 : Int32)) L = true then (z_bp (X10_write Γ M l1 (xs ((l3 + (1 : Int32)).toNatClampNeg)) (xs ((l3 + (2 : Int32)).toNatClampNeg)) ((((xs ((l3 + (3 : Int32)).toNatClampNeg)).toInt64) <<< ((32 : Int32).toInt64 &&& 63)) ||| (((xs ((l3 + (4 : Int32)).toNatClampNeg)).toInt64) &&& (4294967295 : Int64)))) (fun r292 M293 => if z_ix (l3 + (1 : Int32)) L = true then (if z_ix (l3 + (2 : Int32)) L = true then (if z_ix (l3 + (3 : Int32)) L = true then (if z_ix (l3 + (4 : Int32)) L = true then (z_bp (X11_write Γ M293 l2 (xs ((l3 + (1 : Int32)).toNatClampNeg)) (xs ((l3 + (2 : Int32)).toNatClampNeg)) ((((xs ((l3 + (3 : Int32)).toNatClampNeg)).toInt64) <<< ((32 : Int32).toInt64 &&& 63)) ||| (((xs ((l3 + (4 : Int32)).toNatClampNeg)).toInt64) &&& (4294967295 : Int64)))) (fun r299 M300 => if (lg_cmp r292 r299) = 0 then (L_law_P18 Γ xs L n M300 l1 l2 (l3 + (6 : Int32))) else (some (0 : Int32)))) else none) else none) else none) else none)) else none) else none) else none) else none) else if ((xs l3.toNatClampNeg) &&& (63 : Int32)) = (26 : Int32) then (if z_ix (l3 + (1 : Int32)) L = true then (if z_ix (l3 + (2 : Int32)) L = true then (if z_ix (l3 + (3 : Int32)) L = true then (if z_ix (l3 + (4 : Int32)) L = true then (if z_ix (l3 + (5 : Int32)) L = true then (z_bp (X10_copy Γ M l1 (xs ((l3 + (1 : Int32)).toNatClampNeg)) (xs ((l3 + (2 : Int32)).toNatClampNeg)) (xs ((l3 + (3 : Int32)).toNatClampNeg)) (xs ((l3 + (4 : Int32)).toNatClampNeg)) (xs ((l3 + (5 : Int32)).toNatClampNeg))) (fun r309 M310 => if z_ix (l3 + (1 : Int32)) L = true then (if z_ix (l3 + (2 : Int32)) L = true then (if z_ix (l3 + (3 : Int32)) L = true then (if z_ix (l3 + (4 : Int32)) L = true then (if z_ix (l3 + (5 : Int32)) L = true then (z_bp (X11_copy Γ M310 l2 (xs ((l3 + (1 : Int32)).toNatClampNeg)) (xs ((l3 + (2 : Int32)).toNatClampNeg)) (xs ((l3 + (3 : Int32)).toNatClampNeg)) (xs ((l3 + (4 : Int32)).toNatClampNeg)) (xs ((l3 + (5 : Int32)).toNatClampNeg))) (fun r317 M318 => if r309 = r317 then (L_law_P18 Γ xs L n M318 l1 l2 (l3 + (6 : Int32))) else (some (0 : Int32)))) else none) else none) else none) else none) else none)) else none) else none) else none) else none) else none) else if ((xs l3.toNatClampNeg) &&& (63 : Int32)) = (27 : Int32) then (if z_ix (l3 + (1 : Int32)) L = true then (z_bp (X10_lays Γ M l1 (xs ((l3 + (1 : Int32)).toNatClampNeg))) (fun r323 M324 => if z_ix (l3 + (1 : Int32)) L = true then (z_bp (X11_lays Γ M324 l2 (xs ((l3 + (1 : Int32)).toNatClampNeg))) (fun r327 M328 => if r323 = r327 then (L_law_P18 Γ xs L n M328 l1 l2 (l3 + (6 : Int32))) else (some (0 : Int32)))) else none)) else none) else if ((xs l3.toNatClampNeg) &&& (63 : Int32)) = (28 : Int32) then (if z_ix (l3 + (1 : Int32)) L = true then (if z_ix (l3 + (2 : Int32)) L = true then (z_bp (X10_book Γ M l1 (xs ((l3 + (1 : Int32)).toNatClampNeg)) (xs ((l3 + (2 : Int32)).toNatClampNeg))) (fun r334 M335 => if z_ix (l3 + (1 : Int32)) L = true then (if z_ix (l3 + (2 : Int32)) L = true then (z_bp (X11_book Γ M335 l2 (xs ((l3 + (1 : Int32)).toNatClampNeg)) (xs ((l3 + (2 : Int32)).toNatClampNeg))) (fun r339 M340 => if r334 = r339 then (L_law_P18 Γ xs L n M340 l1 l2 (l3 + (6 : Int32))) else (some (0 : Int32)))) else none) else none)) else none) else none) else if ((xs l3.toNatClampNeg) &&& (63 : Int32)) = (29 : Int32) then (if z_ix (l3 + (1 : Int32)) L = true then (if z_ix (l3 + (2 : Int32)) L = true then (if z_ix (l3 + (3 : Int32)) L = true then (z_bp (X10_read Γ M l1 (xs ((l3 + (1 : Int32)).toNatClampNeg)) (xs ((l3 + (2 : Int32)).toNatClampNeg)) (xs ((l3 + (3 : Int32)).toNatClampNeg))) (fun r347 M348 => if z_ix (l3 + (1 : Int32)) L = true then (if z_ix (l3 + (2 : Int32)) L = true then (if z_ix (l3 + (3 : Int32)) L = true then (z_bp (X11_read Γ M348 l2 (xs ((l3 + (1 : Int32)).toNatClampNeg)) (xs ((l3 + (2 : Int32)).toNatClampNeg)) (xs ((l3 + (3 : Int32)).toNatClampNeg))) (fun r353 M354 => if r347 = r353 then (L_law_P18 Γ xs L n M354 l1 l2 (l3 + (6 : Int32))) else (some (0 : Int32)))) else none) else none) else none)) else none) else none) else none) else if ((xs l3.toNatClampNeg) &&& (63 : Int32)) = (30 : Int32) then (z_bp (X10_image Γ M l1) (fun r358 M359 => z_bp (X11_image Γ M359 l2) (fun r361 M362 => if r358 = r361 then (L_law_P18 Γ xs L n M362 l1 l2 (l3 + (6 : Int32))) else (some (0 : Int32))))) else if ((xs l3.toNatClampNeg) &&& (63 : Int32)) = (31 : Int32) then (z_bp (X10_undo Γ M l1) (fun r366 M367 => z_bp (X11_undo Γ M367 l2) (fun r369 M370 => if r366 = r369 then (L_law_P18 Γ xs L n M370 l1 l2 (l3 + (6 : Int32))) else (some (0 : Int32))))) else if ((xs l3.toNatClampNeg) &&& (63 : Int32)) = (32 : Int32) then (z_lp (X10_tear M l1) (fun r374 M375 => z_lp (X11_tear M375 l2) (fun r377 M378 => if r374 = r377 then (L_law_P18 Γ xs L n M378 l1 l2 (l3 + (6 : Int32))) else (some (0 : Int32))))) else if ((xs l3.toNatClampNeg) &&& (63 : Int32)) = (33 : Int32) then (if z_ix (l3 + (1 : Int32)) L = true then (z_bp (X10_count Γ M l1 (xs ((l3 + (1 : Int32)).toNatClampNeg))) (fun r383 M384 => if z_ix (l3 + (1 : Int32)) L = true then (z_bp (X11_count Γ M384 l2 (xs ((l3 + (1 : Int32)).toNatClampNeg))) (fun r387 M388 => if r383 = r387 then (L_law_P18 Γ xs L n M388 l1 l2 (l3 + (6 : Int32))) else (some (0 : Int32)))) else none)) else none) else if ((xs l3.toNatClampNeg) &&& (63 : Int32)) = (34 : Int32) then (if z_ix (l3 + (1 : Int32)) L = true then (z_bp (X10_status Γ M l1 (xs ((l3 + (1 : Int32)).toNatClampNeg))) (fun r393 M394 => if z_ix (l3 + (1 : Int32)) L = true then (z_bp (X11_status Γ M394 l2 (xs ((l3 + (1 : Int32)).toNatClampNeg))) (fun r397 M398 => if r393 = r397 then (L_law_P18 Γ xs L n M398 l1 l2 (l3 + (6 : Int32))) else (some (0 : Int32)))) else none)) else none) else (L_law_P18 Γ xs L n M l1 l2 (l3 + (6 : Int32)))) else none)
section
variable {Γ : Zg} {p : Program} {l : Launch} {e : Env} {s : State} {m : MethodId} {below : List Frame} {meth : Method} {c : Code} {b L : Nat} {xs : Nat → Int32}
set_option maxHeartbeats 40000000 in
set_option maxRecDepth 100000 in
theorem w_L_law_P18 (B : z_Bd Γ p s m #[Value.ref b] meth c cL_law 4 ret RL) (hX : va_X b L xs s s.heap) (hbl : b < s.heap.size) (hbA : ¬ z_A Γ b) (hlo : ∀ q, z_A Γ q → s.heap.size ≤ q) {nc ns : Nat} (hnc : nc ≤ 600000) (hns : ns ≤ 7302249) : ∀ (n : Nat) (M : Zm) (l1 l2 : Nat) (l3 : Int32), L_law_P18 Γ xs L n M l1 l2 l3 = some 1 → z_Is Γ 10 l1 → z_Is Γ 11 l2 → ∀ (H : Heap) (locs : List Loc) (ls : Array Slot), z_Wd Γ M s.heap H locs → lv_has ls 4 [(0, .ref b), (1, .ref l1), (2, .ref l2), (3, .int l3)] → W p l e room_1 s m #[Value.ref b] below meth c H locs nc ns (lw_Z below #[Value.ref b] s) (F0 m 18 ls []) := by
  have hx := B.1
  have hb := B.2.1
  have hml := B.2.2.1
  have ho := B.2.2.2.1
  have hw := B.2.2.2.2.1
  have hE := B.2.2.2.2.2.1.2.2
  have hg := B.2.2.2.2.2.2.1
  intro n
  induction n with
  | zero =>
    intro M l1 l2 l3 hf
    cases hf
  | succ n ih =>
    intro M l1 l2 l3 hf h1 h2 H locs ls hW hl
    rw [L_law_P18] at hf
    refine lv_iload_n hx hb dL_law_18 rfl (lv_at hl 3 rfl) ?_
    refine lv_aload_n hx hb dL_law_19 rfl (lv_at hl 0 rfl) ?_
    refine va_slen hx hb hX hbl hbA hW.2.2 dL_law_20 ?_
    refine lv_bipush (v := 6) hx hb dL_law_21 (by decide) ?_
    refine lv_isub hx hb dL_law_23 ?_
    refine lv_icmp_gt (tgt := 1260) hx hb dL_law_24 (by decide) (fun c1 => ?_) (fun c1 => ?_)
    · have hf := z_it c1 hf
      refine lv_iconst (v := 1) hx hb dL_law_1260 (by decide) ?_
      refine va_forget (fun q hq => hlo _ (hW.2.2.2.2 q hq)) ?_
      refine W.widen (k := 600000) (n := 7302249) hnc hns ?_
      exact lw_ret hx hb B.2.2.2.2.2.2.2.1 B.2.2.2.2.2.2.2.2 dL_law_1261
    · have hf := z_if c1 hf
      refine lv_aload_n hx hb dL_law_27 rfl (lv_at hl 0 rfl) ?_
      refine lv_iload_n hx hb dL_law_28 rfl (lv_at hl 3 rfl) ?_
      obtain ⟨g2, hf⟩ := z_gd hf
      refine va_sld hx hb hX hbl hbA hW.2.2 g2 dL_law_29 ?_
      refine lv_bipush (v := 63) hx hb dL_law_30 (by decide) ?_
      refine lv_iand hx hb dL_law_32 ?_
      by_cases c3 : ((xs l3.toNatClampNeg) &&& (63 : Int32)) = (0 : Int32)
      · have hf := z_it c3 hf
        refine lv_tableIn (off := 155) (tgt := 188) hx hb dL_law_33 (by rw [c3]; decide) (by rw [c3]; decide) (by rw [c3]; decide) (by decide) ?_
        refine lv_aload_n hx hb dL_law_188 rfl (lv_at hl 1 rfl) ?_
        refine lv_aload_n hx hb dL_law_189 rfl (lv_at hl 0 rfl) ?_
        refine lv_iload_n hx hb dL_law_190 rfl (lv_at hl 3 rfl) ?_
        refine lv_iconst (v := 1) hx hb dL_law_191 (by decide) ?_
        refine lv_iadd hx hb dL_law_192 ?_
        obtain ⟨g4, hf⟩ := z_gd hf
        refine va_sld hx hb hX hbl hbA hW.2.2 g4 dL_law_193 ?_
        obtain ⟨r5, M6, e7, hf⟩ := z_bpe hf
        refine z_cV (As := [.int (xs ((l3 + (1 : Int32)).toNatClampNeg))]) (rest := []) B hW (f_X10_sham l e7 h1) sc_X10_sham sv_L_13 h1 ⟨Nat.le_of_ble_eq_true rfl, Nat.le_of_ble_eq_true rfl⟩ ⟨hnc, hns⟩ rfl hl.1 rfl (Nat.le_of_ble_eq_true rfl) dL_law_194 (fun H locs hW => ?_)
        refine lv_aload_n hx hb dL_law_197 rfl (lv_at hl 2 rfl) ?_
        refine lv_aload_n hx hb dL_law_198 rfl (lv_at hl 0 rfl) ?_
        refine lv_iload_n hx hb dL_law_199 rfl (lv_at hl 3 rfl) ?_
        refine lv_iconst (v := 1) hx hb dL_law_200 (by decide) ?_
        refine lv_iadd hx hb dL_law_201 ?_
        obtain ⟨g8, hf⟩ := z_gd hf
        refine va_sld hx hb hX hbl hbA hW.2.2 g8 dL_law_202 ?_
        obtain ⟨r9, M10, e11, hf⟩ := z_bpe hf
        refine z_cV (As := [.int (xs ((l3 + (1 : Int32)).toNatClampNeg))]) (rest := [.int r5]) B hW (f_X11_sham l e11 h2) sc_X11_sham sv_L_17 h2 ⟨Nat.le_of_ble_eq_true rfl, Nat.le_of_ble_eq_true rfl⟩ ⟨hnc, hns⟩ rfl hl.1 rfl (Nat.le_of_ble_eq_true rfl) dL_law_203 (fun H locs hW => ?_)
        refine lv_icmp_eq (tgt := 1254) hx hb dL_law_206 (by decide) (fun c12 => ?_) (fun c12 => ?_)
        · have hf := z_it c12 hf
          refine lv_iinc (v := l3 + (6 : Int32)) (lv' := [(3, .int (l3 + (6 : Int32))), (0, .ref b), (1, .ref l1), (2, .ref l2)]) hx hb dL_law_1254 hl (k := 3) rfl rfl (by decide) rfl (fun ls hl => ?_)
          refine lv_goto (tgt := 18) hx hb dL_law_1257 (by decide) ?_
          exact ih M10 l1 l2 (l3 + (6 : Int32)) hf h1 h2 _ _ _ hW (lv_sub hl [1, 2, 3, 0] rfl)
        · have hf := z_if c12 hf
          refine lv_iconst (v := 0) hx hb dL_law_209 (by decide) ?_
          exact absurd (Option.some.inj hf) (by decide)
      · have hf := z_if c3 hf
        by_cases c13 : ((xs l3.toNatClampNeg) &&& (63 : Int32)) = (1 : Int32)
        · have hf := z_it c13 hf
          refine lv_tableIn (off := 178) (tgt := 211) hx hb dL_law_33 (by rw [c13]; decide) (by rw [c13]; decide) (by rw [c13]; decide) (by decide) ?_
          refine lv_aload_n hx hb dL_law_211 rfl (lv_at hl 1 rfl) ?_
          refine lv_aload_n hx hb dL_law_212 rfl (lv_at hl 0 rfl) ?_
          refine lv_iload_n hx hb dL_law_213 rfl (lv_at hl 3 rfl) ?_
          refine lv_iconst (v := 1) hx hb dL_law_214 (by decide) ?_
          refine lv_iadd hx hb dL_law_215 ?_
          obtain ⟨g14, hf⟩ := z_gd hf
          refine va_sld hx hb hX hbl hbA hW.2.2 g14 dL_law_216 ?_
          refine lv_aload_n hx hb dL_law_217 rfl (lv_at hl 0 rfl) ?_
          refine lv_iload_n hx hb dL_law_218 rfl (lv_at hl 3 rfl) ?_
          refine lv_iconst (v := 2) hx hb dL_law_219 (by decide) ?_
          refine lv_iadd hx hb dL_law_220 ?_
          obtain ⟨g15, hf⟩ := z_gd hf
          refine va_sld hx hb hX hbl hbA hW.2.2 g15 dL_law_221 ?_
          obtain ⟨r16, M17, e18, hf⟩ := z_bpe hf
          refine z_cV (As := [.int (xs ((l3 + (1 : Int32)).toNatClampNeg)), .int (xs ((l3 + (2 : Int32)).toNatClampNeg))]) (rest := []) B hW (f_X10_who l e18 h1) sc_X10_who sv_L_18 h1 ⟨Nat.le_of_ble_eq_true rfl, Nat.le_of_ble_eq_true rfl⟩ ⟨hnc, hns⟩ rfl hl.1 rfl (Nat.le_of_ble_eq_true rfl) dL_law_222 (fun H locs hW => ?_)
          refine lv_aload_n hx hb dL_law_225 rfl (lv_at hl 2 rfl) ?_
          refine lv_aload_n hx hb dL_law_226 rfl (lv_at hl 0 rfl) ?_
          refine lv_iload_n hx hb dL_law_227 rfl (lv_at hl 3 rfl) ?_
          refine lv_iconst (v := 1) hx hb dL_law_228 (by decide) ?_
          refine lv_iadd hx hb dL_law_229 ?_
          obtain ⟨g19, hf⟩ := z_gd hf
          refine va_sld hx hb hX hbl hbA hW.2.2 g19 dL_law_230 ?_
          refine lv_aload_n hx hb dL_law_231 rfl (lv_at hl 0 rfl) ?_
          refine lv_iload_n hx hb dL_law_232 rfl (lv_at hl 3 rfl) ?_
          refine lv_iconst (v := 2) hx hb dL_law_233 (by decide) ?_
          refine lv_iadd hx hb dL_law_234 ?_
          obtain ⟨g20, hf⟩ := z_gd hf
          refine va_sld hx hb hX hbl hbA hW.2.2 g20 dL_law_235 ?_
          obtain ⟨r21, M22, e23, hf⟩ := z_bpe hf
          refine z_cV (As := [.int (xs ((l3 + (1 : Int32)).toNatClampNeg)), .int (xs ((l3 + (2 : Int32)).toNatClampNeg))]) (rest := [.int r16]) B hW (f_X11_who l e23 h2) sc_X11_who sv_L_22 h2 ⟨Nat.le_of_ble_eq_true rfl, Nat.le_of_ble_eq_true rfl⟩ ⟨hnc, hns⟩ rfl hl.1 rfl (Nat.le_of_ble_eq_true rfl) dL_law_236 (fun H locs hW => ?_)
          refine lv_icmp_eq (tgt := 1254) hx hb dL_law_239 (by decide) (fun c24 => ?_) (fun c24 => ?_)
          · have hf := z_it c24 hf
            refine lv_iinc (v := l3 + (6 : Int32)) (lv' := [(3, .int (l3 + (6 : Int32))), (0, .ref b), (1, .ref l1), (2, .ref l2)]) hx hb dL_law_1254 hl (k := 3) rfl rfl (by decide) rfl (fun ls hl => ?_)
            refine lv_goto (tgt := 18) hx hb dL_law_1257 (by decide) ?_
            exact ih M22 l1 l2 (l3 + (6 : Int32)) hf h1 h2 _ _ _ hW (lv_sub hl [1, 2, 3, 0] rfl)
          · have hf := z_if c24 hf
            refine lv_iconst (v := 0) hx hb dL_law_242 (by decide) ?_
            exact absurd (Option.some.inj hf) (by decide)
        · have hf := z_if c13 hf
          by_cases c25 : ((xs l3.toNatClampNeg) &&& (63 : Int32)) = (2 : Int32)
          · have hf := z_it c25 hf
            refine lv_tableIn (off := 211) (tgt := 244) hx hb dL_law_33 (by rw [c25]; decide) (by rw [c25]; decide) (by rw [c25]; decide) (by decide) ?_
            refine lv_aload_n hx hb dL_law_244 rfl (lv_at hl 1 rfl) ?_
            refine lv_aload_n hx hb dL_law_245 rfl (lv_at hl 0 rfl) ?_
            refine lv_iload_n hx hb dL_law_246 rfl (lv_at hl 3 rfl) ?_
            refine lv_iconst (v := 1) hx hb dL_law_247 (by decide) ?_
            refine lv_iadd hx hb dL_law_248 ?_
            obtain ⟨g26, hf⟩ := z_gd hf
            refine va_sld hx hb hX hbl hbA hW.2.2 g26 dL_law_249 ?_
            obtain ⟨r27, M28, e29, hf⟩ := z_bpe hf
            refine z_cV (As := [.int (xs ((l3 + (1 : Int32)).toNatClampNeg))]) (rest := []) B hW (f_X10_person l e29 h1) sc_X10_person sv_L_23 h1 ⟨Nat.le_of_ble_eq_true rfl, Nat.le_of_ble_eq_true rfl⟩ ⟨hnc, hns⟩ rfl hl.1 rfl (Nat.le_of_ble_eq_true rfl) dL_law_250 (fun H locs hW => ?_)
            refine lv_aload_n hx hb dL_law_253 rfl (lv_at hl 2 rfl) ?_
            refine lv_aload_n hx hb dL_law_254 rfl (lv_at hl 0 rfl) ?_
            refine lv_iload_n hx hb dL_law_255 rfl (lv_at hl 3 rfl) ?_
            refine lv_iconst (v := 1) hx hb dL_law_256 (by decide) ?_
            refine lv_iadd hx hb dL_law_257 ?_
            obtain ⟨g30, hf⟩ := z_gd hf
            refine va_sld hx hb hX hbl hbA hW.2.2 g30 dL_law_258 ?_
            obtain ⟨r31, M32, e33, hf⟩ := z_bpe hf
            refine z_cV (As := [.int (xs ((l3 + (1 : Int32)).toNatClampNeg))]) (rest := [.int r27]) B hW (f_X11_person l e33 h2) sc_X11_person sv_L_26 h2 ⟨Nat.le_of_ble_eq_true rfl, Nat.le_of_ble_eq_true rfl⟩ ⟨hnc, hns⟩ rfl hl.1 rfl (Nat.le_of_ble_eq_true rfl) dL_law_259 (fun H locs hW => ?_)
            refine lv_icmp_eq (tgt := 1254) hx hb dL_law_262 (by decide) (fun c34 => ?_) (fun c34 => ?_)
            · have hf := z_it c34 hf
              refine lv_iinc (v := l3 + (6 : Int32)) (lv' := [(3, .int (l3 + (6 : Int32))), (0, .ref b), (1, .ref l1), (2, .ref l2)]) hx hb dL_law_1254 hl (k := 3) rfl rfl (by decide) rfl (fun ls hl => ?_)
              refine lv_goto (tgt := 18) hx hb dL_law_1257 (by decide) ?_
              exact ih M32 l1 l2 (l3 + (6 : Int32)) hf h1 h2 _ _ _ hW (lv_sub hl [1, 2, 3, 0] rfl)
            · have hf := z_if c34 hf
              refine lv_iconst (v := 0) hx hb dL_law_265 (by decide) ?_
              exact absurd (Option.some.inj hf) (by decide)
          · have hf := z_if c25 hf
            by_cases c35 : ((xs l3.toNatClampNeg) &&& (63 : Int32)) = (3 : Int32)
            · have hf := z_it c35 hf
              refine lv_tableIn (off := 234) (tgt := 267) hx hb dL_law_33 (by rw [c35]; decide) (by rw [c35]; decide) (by rw [c35]; decide) (by decide) ?_
              refine lv_aload_n hx hb dL_law_267 rfl (lv_at hl 1 rfl) ?_
              refine lv_aload_n hx hb dL_law_268 rfl (lv_at hl 0 rfl) ?_
              refine lv_iload_n hx hb dL_law_269 rfl (lv_at hl 3 rfl) ?_
              refine lv_iconst (v := 1) hx hb dL_law_270 (by decide) ?_
              refine lv_iadd hx hb dL_law_271 ?_
              obtain ⟨g36, hf⟩ := z_gd hf
              refine va_sld hx hb hX hbl hbA hW.2.2 g36 dL_law_272 ?_
              refine lv_aload_n hx hb dL_law_273 rfl (lv_at hl 0 rfl) ?_
              refine lv_iload_n hx hb dL_law_274 rfl (lv_at hl 3 rfl) ?_
              refine lv_iconst (v := 2) hx hb dL_law_275 (by decide) ?_
              refine lv_iadd hx hb dL_law_276 ?_
              obtain ⟨g37, hf⟩ := z_gd hf
              refine va_sld hx hb hX hbl hbA hW.2.2 g37 dL_law_277 ?_
              obtain ⟨r38, M39, e40, hf⟩ := z_bpe hf
              refine z_cV (As := [.int (xs ((l3 + (1 : Int32)).toNatClampNeg)), .int (xs ((l3 + (2 : Int32)).toNatClampNeg))]) (rest := []) B hW (f_X10_of l e40 h1) sc_X10_of sv_L_27 h1 ⟨Nat.le_of_ble_eq_true rfl, Nat.le_of_ble_eq_true rfl⟩ ⟨hnc, hns⟩ rfl hl.1 rfl (Nat.le_of_ble_eq_true rfl) dL_law_278 (fun H locs hW => ?_)
              refine lv_aload_n hx hb dL_law_281 rfl (lv_at hl 2 rfl) ?_
              refine lv_aload_n hx hb dL_law_282 rfl (lv_at hl 0 rfl) ?_
              refine lv_iload_n hx hb dL_law_283 rfl (lv_at hl 3 rfl) ?_
              refine lv_iconst (v := 1) hx hb dL_law_284 (by decide) ?_
              refine lv_iadd hx hb dL_law_285 ?_
              obtain ⟨g41, hf⟩ := z_gd hf
              refine va_sld hx hb hX hbl hbA hW.2.2 g41 dL_law_286 ?_
              refine lv_aload_n hx hb dL_law_287 rfl (lv_at hl 0 rfl) ?_
              refine lv_iload_n hx hb dL_law_288 rfl (lv_at hl 3 rfl) ?_
              refine lv_iconst (v := 2) hx hb dL_law_289 (by decide) ?_
              refine lv_iadd hx hb dL_law_290 ?_
              obtain ⟨g42, hf⟩ := z_gd hf
              refine va_sld hx hb hX hbl hbA hW.2.2 g42 dL_law_291 ?_
              obtain ⟨r43, M44, e45, hf⟩ := z_bpe hf
              refine z_cV (As := [.int (xs ((l3 + (1 : Int32)).toNatClampNeg)), .int (xs ((l3 + (2 : Int32)).toNatClampNeg))]) (rest := [.int r38]) B hW (f_X11_of l e45 h2) sc_X11_of sv_L_30 h2 ⟨Nat.le_of_ble_eq_true rfl, Nat.le_of_ble_eq_true rfl⟩ ⟨hnc, hns⟩ rfl hl.1 rfl (Nat.le_of_ble_eq_true rfl) dL_law_292 (fun H locs hW => ?_)
              refine lv_icmp_eq (tgt := 1254) hx hb dL_law_295 (by decide) (fun c46 => ?_) (fun c46 => ?_)
              · have hf := z_it c46 hf
                refine lv_iinc (v := l3 + (6 : Int32)) (lv' := [(3, .int (l3 + (6 : Int32))), (0, .ref b), (1, .ref l1), (2, .ref l2)]) hx hb dL_law_1254 hl (k := 3) rfl rfl (by decide) rfl (fun ls hl => ?_)
                refine lv_goto (tgt := 18) hx hb dL_law_1257 (by decide) ?_
                exact ih M44 l1 l2 (l3 + (6 : Int32)) hf h1 h2 _ _ _ hW (lv_sub hl [1, 2, 3, 0] rfl)
              · have hf := z_if c46 hf
                refine lv_iconst (v := 0) hx hb dL_law_298 (by decide) ?_
                exact absurd (Option.some.inj hf) (by decide)
            · have hf := z_if c35 hf
              by_cases c47 : ((xs l3.toNatClampNeg) &&& (63 : Int32)) = (4 : Int32)
              · have hf := z_it c47 hf
                refine lv_tableIn (off := 267) (tgt := 300) hx hb dL_law_33 (by rw [c47]; decide) (by rw [c47]; decide) (by rw [c47]; decide) (by decide) ?_
                refine lv_aload_n hx hb dL_law_300 rfl (lv_at hl 1 rfl) ?_
                refine lv_aload_n hx hb dL_law_301 rfl (lv_at hl 0 rfl) ?_
                refine lv_iload_n hx hb dL_law_302 rfl (lv_at hl 3 rfl) ?_
                refine lv_iconst (v := 1) hx hb dL_law_303 (by decide) ?_
                refine lv_iadd hx hb dL_law_304 ?_
                obtain ⟨g48, hf⟩ := z_gd hf
                refine va_sld hx hb hX hbl hbA hW.2.2 g48 dL_law_305 ?_
                refine lv_aload_n hx hb dL_law_306 rfl (lv_at hl 0 rfl) ?_
                refine lv_iload_n hx hb dL_law_307 rfl (lv_at hl 3 rfl) ?_
                refine lv_iconst (v := 2) hx hb dL_law_308 (by decide) ?_
                refine lv_iadd hx hb dL_law_309 ?_
                obtain ⟨g49, hf⟩ := z_gd hf
                refine va_sld hx hb hX hbl hbA hW.2.2 g49 dL_law_310 ?_
                refine lv_aload_n hx hb dL_law_311 rfl (lv_at hl 0 rfl) ?_
                refine lv_iload_n hx hb dL_law_312 rfl (lv_at hl 3 rfl) ?_
                refine lv_iconst (v := 3) hx hb dL_law_313 (by decide) ?_
                refine lv_iadd hx hb dL_law_314 ?_
                obtain ⟨g50, hf⟩ := z_gd hf
                refine va_sld hx hb hX hbl hbA hW.2.2 g50 dL_law_315 ?_
                obtain ⟨r51, M52, e53, hf⟩ := z_bpe hf
                refine z_cV (As := [.int (xs ((l3 + (1 : Int32)).toNatClampNeg)), .int (xs ((l3 + (2 : Int32)).toNatClampNeg)), .int (xs ((l3 + (3 : Int32)).toNatClampNeg))]) (rest := []) B hW (f_X10_set l e53 h1) sc_X10_set sv_L_31 h1 ⟨Nat.le_of_ble_eq_true rfl, Nat.le_of_ble_eq_true rfl⟩ ⟨hnc, hns⟩ rfl hl.1 rfl (Nat.le_of_ble_eq_true rfl) dL_law_316 (fun H locs hW => ?_)
                refine lv_aload_n hx hb dL_law_319 rfl (lv_at hl 2 rfl) ?_
                refine lv_aload_n hx hb dL_law_320 rfl (lv_at hl 0 rfl) ?_
                refine lv_iload_n hx hb dL_law_321 rfl (lv_at hl 3 rfl) ?_
                refine lv_iconst (v := 1) hx hb dL_law_322 (by decide) ?_
                refine lv_iadd hx hb dL_law_323 ?_
                obtain ⟨g54, hf⟩ := z_gd hf
                refine va_sld hx hb hX hbl hbA hW.2.2 g54 dL_law_324 ?_
                refine lv_aload_n hx hb dL_law_325 rfl (lv_at hl 0 rfl) ?_
                refine lv_iload_n hx hb dL_law_326 rfl (lv_at hl 3 rfl) ?_
                refine lv_iconst (v := 2) hx hb dL_law_327 (by decide) ?_
                refine lv_iadd hx hb dL_law_328 ?_
                obtain ⟨g55, hf⟩ := z_gd hf
                refine va_sld hx hb hX hbl hbA hW.2.2 g55 dL_law_329 ?_
                refine lv_aload_n hx hb dL_law_330 rfl (lv_at hl 0 rfl) ?_
                refine lv_iload_n hx hb dL_law_331 rfl (lv_at hl 3 rfl) ?_
                refine lv_iconst (v := 3) hx hb dL_law_332 (by decide) ?_
                refine lv_iadd hx hb dL_law_333 ?_
                obtain ⟨g56, hf⟩ := z_gd hf
                refine va_sld hx hb hX hbl hbA hW.2.2 g56 dL_law_334 ?_
                obtain ⟨r57, M58, e59, hf⟩ := z_bpe hf
                refine z_cV (As := [.int (xs ((l3 + (1 : Int32)).toNatClampNeg)), .int (xs ((l3 + (2 : Int32)).toNatClampNeg)), .int (xs ((l3 + (3 : Int32)).toNatClampNeg))]) (rest := [.int r51]) B hW (f_X11_set l e59 h2) sc_X11_set sv_L_35 h2 ⟨Nat.le_of_ble_eq_true rfl, Nat.le_of_ble_eq_true rfl⟩ ⟨hnc, hns⟩ rfl hl.1 rfl (Nat.le_of_ble_eq_true rfl) dL_law_335 (fun H locs hW => ?_)
                refine lv_icmp_eq (tgt := 1254) hx hb dL_law_338 (by decide) (fun c60 => ?_) (fun c60 => ?_)
                · have hf := z_it c60 hf
                  refine lv_iinc (v := l3 + (6 : Int32)) (lv' := [(3, .int (l3 + (6 : Int32))), (0, .ref b), (1, .ref l1), (2, .ref l2)]) hx hb dL_law_1254 hl (k := 3) rfl rfl (by decide) rfl (fun ls hl => ?_)
                  refine lv_goto (tgt := 18) hx hb dL_law_1257 (by decide) ?_
                  exact ih M58 l1 l2 (l3 + (6 : Int32)) hf h1 h2 _ _ _ hW (lv_sub hl [1, 2, 3, 0] rfl)
                · have hf := z_if c60 hf
                  refine lv_iconst (v := 0) hx hb dL_law_341 (by decide) ?_
                  exact absurd (Option.some.inj hf) (by decide)
              · have hf := z_if c47 hf
                by_cases c61 : ((xs l3.toNatClampNeg) &&& (63 : Int32)) = (5 : Int32)
                · have hf := z_it c61 hf
                  refine lv_tableIn (off := 310) (tgt := 343) hx hb dL_law_33 (by rw [c61]; decide) (by rw [c61]; decide) (by rw [c61]; decide) (by decide) ?_
                  refine lv_aload_n hx hb dL_law_343 rfl (lv_at hl 1 rfl) ?_
                  refine lv_aload_n hx hb dL_law_344 rfl (lv_at hl 0 rfl) ?_
                  refine lv_iload_n hx hb dL_law_345 rfl (lv_at hl 3 rfl) ?_
                  refine lv_iconst (v := 1) hx hb dL_law_346 (by decide) ?_
                  refine lv_iadd hx hb dL_law_347 ?_
                  obtain ⟨g62, hf⟩ := z_gd hf
                  refine va_sld hx hb hX hbl hbA hW.2.2 g62 dL_law_348 ?_
                  refine lv_aload_n hx hb dL_law_349 rfl (lv_at hl 0 rfl) ?_
                  refine lv_iload_n hx hb dL_law_350 rfl (lv_at hl 3 rfl) ?_
                  refine lv_iconst (v := 2) hx hb dL_law_351 (by decide) ?_
                  refine lv_iadd hx hb dL_law_352 ?_
                  obtain ⟨g63, hf⟩ := z_gd hf
                  refine va_sld hx hb hX hbl hbA hW.2.2 g63 dL_law_353 ?_
                  obtain ⟨r64, M65, e66, hf⟩ := z_bpe hf
                  refine z_cV (As := [.int (xs ((l3 + (1 : Int32)).toNatClampNeg)), .int (xs ((l3 + (2 : Int32)).toNatClampNeg))]) (rest := []) B hW (f_X10_turn l e66 h1) sc_X10_turn sv_L_36 h1 ⟨Nat.le_of_ble_eq_true rfl, Nat.le_of_ble_eq_true rfl⟩ ⟨hnc, hns⟩ rfl hl.1 rfl (Nat.le_of_ble_eq_true rfl) dL_law_354 (fun H locs hW => ?_)
                  refine lv_aload_n hx hb dL_law_357 rfl (lv_at hl 2 rfl) ?_
                  refine lv_aload_n hx hb dL_law_358 rfl (lv_at hl 0 rfl) ?_
                  refine lv_iload_n hx hb dL_law_359 rfl (lv_at hl 3 rfl) ?_
                  refine lv_iconst (v := 1) hx hb dL_law_360 (by decide) ?_
                  refine lv_iadd hx hb dL_law_361 ?_
                  obtain ⟨g67, hf⟩ := z_gd hf
                  refine va_sld hx hb hX hbl hbA hW.2.2 g67 dL_law_362 ?_
                  refine lv_aload_n hx hb dL_law_363 rfl (lv_at hl 0 rfl) ?_
                  refine lv_iload_n hx hb dL_law_364 rfl (lv_at hl 3 rfl) ?_
                  refine lv_iconst (v := 2) hx hb dL_law_365 (by decide) ?_
                  refine lv_iadd hx hb dL_law_366 ?_
                  obtain ⟨g68, hf⟩ := z_gd hf
                  refine va_sld hx hb hX hbl hbA hW.2.2 g68 dL_law_367 ?_
                  obtain ⟨r69, M70, e71, hf⟩ := z_bpe hf
                  refine z_cV (As := [.int (xs ((l3 + (1 : Int32)).toNatClampNeg)), .int (xs ((l3 + (2 : Int32)).toNatClampNeg))]) (rest := [.int r64]) B hW (f_X11_turn l e71 h2) sc_X11_turn sv_L_39 h2 ⟨Nat.le_of_ble_eq_true rfl, Nat.le_of_ble_eq_true rfl⟩ ⟨hnc, hns⟩ rfl hl.1 rfl (Nat.le_of_ble_eq_true rfl) dL_law_368 (fun H locs hW => ?_)
                  refine lv_icmp_eq (tgt := 1254) hx hb dL_law_371 (by decide) (fun c72 => ?_) (fun c72 => ?_)
                  · have hf := z_it c72 hf
                    refine lv_iinc (v := l3 + (6 : Int32)) (lv' := [(3, .int (l3 + (6 : Int32))), (0, .ref b), (1, .ref l1), (2, .ref l2)]) hx hb dL_law_1254 hl (k := 3) rfl rfl (by decide) rfl (fun ls hl => ?_)
                    refine lv_goto (tgt := 18) hx hb dL_law_1257 (by decide) ?_
                    exact ih M70 l1 l2 (l3 + (6 : Int32)) hf h1 h2 _ _ _ hW (lv_sub hl [1, 2, 3, 0] rfl)
                  · have hf := z_if c72 hf
                    refine lv_iconst (v := 0) hx hb dL_law_374 (by decide) ?_
                    exact absurd (Option.some.inj hf) (by decide)
                · have hf := z_if c61 hf
                  by_cases c73 : ((xs l3.toNatClampNeg) &&& (63 : Int32)) = (6 : Int32)
                  · have hf := z_it c73 hf
                    refine lv_tableIn (off := 343) (tgt := 376) hx hb dL_law_33 (by rw [c73]; decide) (by rw [c73]; decide) (by rw [c73]; decide) (by decide) ?_
                    refine lv_aload_n hx hb dL_law_376 rfl (lv_at hl 1 rfl) ?_
                    refine lv_aload_n hx hb dL_law_377 rfl (lv_at hl 0 rfl) ?_
                    refine lv_iload_n hx hb dL_law_378 rfl (lv_at hl 3 rfl) ?_
                    refine lv_iconst (v := 1) hx hb dL_law_379 (by decide) ?_
                    refine lv_iadd hx hb dL_law_380 ?_
                    obtain ⟨g74, hf⟩ := z_gd hf
                    refine va_sld hx hb hX hbl hbA hW.2.2 g74 dL_law_381 ?_
                    refine lv_aload_n hx hb dL_law_382 rfl (lv_at hl 0 rfl) ?_
                    refine lv_iload_n hx hb dL_law_383 rfl (lv_at hl 3 rfl) ?_
                    refine lv_iconst (v := 2) hx hb dL_law_384 (by decide) ?_
                    refine lv_iadd hx hb dL_law_385 ?_
                    obtain ⟨g75, hf⟩ := z_gd hf
                    refine va_sld hx hb hX hbl hbA hW.2.2 g75 dL_law_386 ?_
                    obtain ⟨r76, M77, e78, hf⟩ := z_bpe hf
                    refine z_cV (As := [.int (xs ((l3 + (1 : Int32)).toNatClampNeg)), .int (xs ((l3 + (2 : Int32)).toNatClampNeg))]) (rest := []) B hW (f_X10_as l e78 h1) sc_X10_as sv_L_40 h1 ⟨Nat.le_of_ble_eq_true rfl, Nat.le_of_ble_eq_true rfl⟩ ⟨hnc, hns⟩ rfl hl.1 rfl (Nat.le_of_ble_eq_true rfl) dL_law_387 (fun H locs hW => ?_)
                    refine lv_aload_n hx hb dL_law_390 rfl (lv_at hl 2 rfl) ?_
                    refine lv_aload_n hx hb dL_law_391 rfl (lv_at hl 0 rfl) ?_
                    refine lv_iload_n hx hb dL_law_392 rfl (lv_at hl 3 rfl) ?_
                    refine lv_iconst (v := 1) hx hb dL_law_393 (by decide) ?_
                    refine lv_iadd hx hb dL_law_394 ?_
                    obtain ⟨g79, hf⟩ := z_gd hf
                    refine va_sld hx hb hX hbl hbA hW.2.2 g79 dL_law_395 ?_
                    refine lv_aload_n hx hb dL_law_396 rfl (lv_at hl 0 rfl) ?_
                    refine lv_iload_n hx hb dL_law_397 rfl (lv_at hl 3 rfl) ?_
                    refine lv_iconst (v := 2) hx hb dL_law_398 (by decide) ?_
                    refine lv_iadd hx hb dL_law_399 ?_
                    obtain ⟨g80, hf⟩ := z_gd hf
                    refine va_sld hx hb hX hbl hbA hW.2.2 g80 dL_law_400 ?_
                    obtain ⟨r81, M82, e83, hf⟩ := z_bpe hf
                    refine z_cV (As := [.int (xs ((l3 + (1 : Int32)).toNatClampNeg)), .int (xs ((l3 + (2 : Int32)).toNatClampNeg))]) (rest := [.int r76]) B hW (f_X11_as l e83 h2) sc_X11_as sv_L_43 h2 ⟨Nat.le_of_ble_eq_true rfl, Nat.le_of_ble_eq_true rfl⟩ ⟨hnc, hns⟩ rfl hl.1 rfl (Nat.le_of_ble_eq_true rfl) dL_law_401 (fun H locs hW => ?_)
                    refine lv_icmp_eq (tgt := 1254) hx hb dL_law_404 (by decide) (fun c84 => ?_) (fun c84 => ?_)
                    · have hf := z_it c84 hf
                      refine lv_iinc (v := l3 + (6 : Int32)) (lv' := [(3, .int (l3 + (6 : Int32))), (0, .ref b), (1, .ref l1), (2, .ref l2)]) hx hb dL_law_1254 hl (k := 3) rfl rfl (by decide) rfl (fun ls hl => ?_)
                      refine lv_goto (tgt := 18) hx hb dL_law_1257 (by decide) ?_
                      exact ih M82 l1 l2 (l3 + (6 : Int32)) hf h1 h2 _ _ _ hW (lv_sub hl [1, 2, 3, 0] rfl)
                    · have hf := z_if c84 hf
                      refine lv_iconst (v := 0) hx hb dL_law_407 (by decide) ?_
                      exact absurd (Option.some.inj hf) (by decide)
                  · have hf := z_if c73 hf
                    by_cases c85 : ((xs l3.toNatClampNeg) &&& (63 : Int32)) = (7 : Int32)
                    · have hf := z_it c85 hf
                      refine lv_tableIn (off := 376) (tgt := 409) hx hb dL_law_33 (by rw [c85]; decide) (by rw [c85]; decide) (by rw [c85]; decide) (by decide) ?_
                      refine lv_aload_n hx hb dL_law_409 rfl (lv_at hl 1 rfl) ?_
                      refine lv_aload_n hx hb dL_law_410 rfl (lv_at hl 0 rfl) ?_
                      refine lv_iload_n hx hb dL_law_411 rfl (lv_at hl 3 rfl) ?_
                      refine lv_iconst (v := 1) hx hb dL_law_412 (by decide) ?_
                      refine lv_iadd hx hb dL_law_413 ?_
                      obtain ⟨g86, hf⟩ := z_gd hf
                      refine va_sld hx hb hX hbl hbA hW.2.2 g86 dL_law_414 ?_
                      refine lv_aload_n hx hb dL_law_415 rfl (lv_at hl 0 rfl) ?_
                      refine lv_iload_n hx hb dL_law_416 rfl (lv_at hl 3 rfl) ?_
                      refine lv_iconst (v := 2) hx hb dL_law_417 (by decide) ?_
                      refine lv_iadd hx hb dL_law_418 ?_
                      obtain ⟨g87, hf⟩ := z_gd hf
                      refine va_sld hx hb hX hbl hbA hW.2.2 g87 dL_law_419 ?_
                      obtain ⟨r88, M89, e90, hf⟩ := z_bpe hf
                      refine z_cV (As := [.int (xs ((l3 + (1 : Int32)).toNatClampNeg)), .int (xs ((l3 + (2 : Int32)).toNatClampNeg))]) (rest := []) B hW (f_X10_sit l e90 h1) sc_X10_sit sv_L_44 h1 ⟨Nat.le_of_ble_eq_true rfl, Nat.le_of_ble_eq_true rfl⟩ ⟨hnc, hns⟩ rfl hl.1 rfl (Nat.le_of_ble_eq_true rfl) dL_law_420 (fun H locs hW => ?_)
                      refine lv_aload_n hx hb dL_law_423 rfl (lv_at hl 2 rfl) ?_
                      refine lv_aload_n hx hb dL_law_424 rfl (lv_at hl 0 rfl) ?_
                      refine lv_iload_n hx hb dL_law_425 rfl (lv_at hl 3 rfl) ?_
                      refine lv_iconst (v := 1) hx hb dL_law_426 (by decide) ?_
                      refine lv_iadd hx hb dL_law_427 ?_
                      obtain ⟨g91, hf⟩ := z_gd hf
                      refine va_sld hx hb hX hbl hbA hW.2.2 g91 dL_law_428 ?_
                      refine lv_aload_n hx hb dL_law_429 rfl (lv_at hl 0 rfl) ?_
                      refine lv_iload_n hx hb dL_law_430 rfl (lv_at hl 3 rfl) ?_
                      refine lv_iconst (v := 2) hx hb dL_law_431 (by decide) ?_
                      refine lv_iadd hx hb dL_law_432 ?_
                      obtain ⟨g92, hf⟩ := z_gd hf
                      refine va_sld hx hb hX hbl hbA hW.2.2 g92 dL_law_433 ?_
                      obtain ⟨r93, M94, e95, hf⟩ := z_bpe hf
                      refine z_cV (As := [.int (xs ((l3 + (1 : Int32)).toNatClampNeg)), .int (xs ((l3 + (2 : Int32)).toNatClampNeg))]) (rest := [.int r88]) B hW (f_X11_sit l e95 h2) sc_X11_sit sv_L_47 h2 ⟨Nat.le_of_ble_eq_true rfl, Nat.le_of_ble_eq_true rfl⟩ ⟨hnc, hns⟩ rfl hl.1 rfl (Nat.le_of_ble_eq_true rfl) dL_law_434 (fun H locs hW => ?_)
                      refine lv_icmp_eq (tgt := 1254) hx hb dL_law_437 (by decide) (fun c96 => ?_) (fun c96 => ?_)
                      · have hf := z_it c96 hf
                        refine lv_iinc (v := l3 + (6 : Int32)) (lv' := [(3, .int (l3 + (6 : Int32))), (0, .ref b), (1, .ref l1), (2, .ref l2)]) hx hb dL_law_1254 hl (k := 3) rfl rfl (by decide) rfl (fun ls hl => ?_)
                        refine lv_goto (tgt := 18) hx hb dL_law_1257 (by decide) ?_
                        exact ih M94 l1 l2 (l3 + (6 : Int32)) hf h1 h2 _ _ _ hW (lv_sub hl [1, 2, 3, 0] rfl)
                      · have hf := z_if c96 hf
                        refine lv_iconst (v := 0) hx hb dL_law_440 (by decide) ?_
                        exact absurd (Option.some.inj hf) (by decide)
                    · have hf := z_if c85 hf
                      by_cases c97 : ((xs l3.toNatClampNeg) &&& (63 : Int32)) = (8 : Int32)
                      · have hf := z_it c97 hf
                        refine lv_tableIn (off := 409) (tgt := 442) hx hb dL_law_33 (by rw [c97]; decide) (by rw [c97]; decide) (by rw [c97]; decide) (by decide) ?_
                        refine lv_aload_n hx hb dL_law_442 rfl (lv_at hl 1 rfl) ?_
                        refine lv_aload_n hx hb dL_law_443 rfl (lv_at hl 0 rfl) ?_
                        refine lv_iload_n hx hb dL_law_444 rfl (lv_at hl 3 rfl) ?_
                        refine lv_iconst (v := 1) hx hb dL_law_445 (by decide) ?_
                        refine lv_iadd hx hb dL_law_446 ?_
                        obtain ⟨g98, hf⟩ := z_gd hf
                        refine va_sld hx hb hX hbl hbA hW.2.2 g98 dL_law_447 ?_
                        refine lv_aload_n hx hb dL_law_448 rfl (lv_at hl 0 rfl) ?_
                        refine lv_iload_n hx hb dL_law_449 rfl (lv_at hl 3 rfl) ?_
                        refine lv_iconst (v := 2) hx hb dL_law_450 (by decide) ?_
                        refine lv_iadd hx hb dL_law_451 ?_
                        obtain ⟨g99, hf⟩ := z_gd hf
                        refine va_sld hx hb hX hbl hbA hW.2.2 g99 dL_law_452 ?_
                        obtain ⟨r100, M101, e102, hf⟩ := z_bpe hf
                        refine z_cV (As := [.int (xs ((l3 + (1 : Int32)).toNatClampNeg)), .int (xs ((l3 + (2 : Int32)).toNatClampNeg))]) (rest := []) B hW (f_X10_trusts l e102 h1) sc_X10_trusts sv_L_48 h1 ⟨Nat.le_of_ble_eq_true rfl, Nat.le_of_ble_eq_true rfl⟩ ⟨hnc, hns⟩ rfl hl.1 rfl (Nat.le_of_ble_eq_true rfl) dL_law_453 (fun H locs hW => ?_)
                        refine lv_aload_n hx hb dL_law_456 rfl (lv_at hl 2 rfl) ?_
                        refine lv_aload_n hx hb dL_law_457 rfl (lv_at hl 0 rfl) ?_
                        refine lv_iload_n hx hb dL_law_458 rfl (lv_at hl 3 rfl) ?_
                        refine lv_iconst (v := 1) hx hb dL_law_459 (by decide) ?_
                        refine lv_iadd hx hb dL_law_460 ?_
                        obtain ⟨g103, hf⟩ := z_gd hf
                        refine va_sld hx hb hX hbl hbA hW.2.2 g103 dL_law_461 ?_
                        refine lv_aload_n hx hb dL_law_462 rfl (lv_at hl 0 rfl) ?_
                        refine lv_iload_n hx hb dL_law_463 rfl (lv_at hl 3 rfl) ?_
                        refine lv_iconst (v := 2) hx hb dL_law_464 (by decide) ?_
                        refine lv_iadd hx hb dL_law_465 ?_
                        obtain ⟨g104, hf⟩ := z_gd hf
                        refine va_sld hx hb hX hbl hbA hW.2.2 g104 dL_law_466 ?_
                        obtain ⟨r105, M106, e107, hf⟩ := z_bpe hf
                        refine z_cV (As := [.int (xs ((l3 + (1 : Int32)).toNatClampNeg)), .int (xs ((l3 + (2 : Int32)).toNatClampNeg))]) (rest := [.int r100]) B hW (f_X11_trusts l e107 h2) sc_X11_trusts sv_L_51 h2 ⟨Nat.le_of_ble_eq_true rfl, Nat.le_of_ble_eq_true rfl⟩ ⟨hnc, hns⟩ rfl hl.1 rfl (Nat.le_of_ble_eq_true rfl) dL_law_467 (fun H locs hW => ?_)
                        refine lv_icmp_eq (tgt := 1254) hx hb dL_law_470 (by decide) (fun c108 => ?_) (fun c108 => ?_)
                        · have hf := z_it c108 hf
                          refine lv_iinc (v := l3 + (6 : Int32)) (lv' := [(3, .int (l3 + (6 : Int32))), (0, .ref b), (1, .ref l1), (2, .ref l2)]) hx hb dL_law_1254 hl (k := 3) rfl rfl (by decide) rfl (fun ls hl => ?_)
                          refine lv_goto (tgt := 18) hx hb dL_law_1257 (by decide) ?_
                          exact ih M106 l1 l2 (l3 + (6 : Int32)) hf h1 h2 _ _ _ hW (lv_sub hl [1, 2, 3, 0] rfl)
                        · have hf := z_if c108 hf
                          refine lv_iconst (v := 0) hx hb dL_law_473 (by decide) ?_
                          exact absurd (Option.some.inj hf) (by decide)
                      · have hf := z_if c97 hf
                        by_cases c109 : ((xs l3.toNatClampNeg) &&& (63 : Int32)) = (9 : Int32)
                        · have hf := z_it c109 hf
                          refine lv_tableIn (off := 442) (tgt := 475) hx hb dL_law_33 (by rw [c109]; decide) (by rw [c109]; decide) (by rw [c109]; decide) (by decide) ?_
                          refine lv_aload_n hx hb dL_law_475 rfl (lv_at hl 1 rfl) ?_
                          refine lv_aload_n hx hb dL_law_476 rfl (lv_at hl 0 rfl) ?_
                          refine lv_iload_n hx hb dL_law_477 rfl (lv_at hl 3 rfl) ?_
                          refine lv_iconst (v := 1) hx hb dL_law_478 (by decide) ?_
                          refine lv_iadd hx hb dL_law_479 ?_
                          obtain ⟨g110, hf⟩ := z_gd hf
                          refine va_sld hx hb hX hbl hbA hW.2.2 g110 dL_law_480 ?_
                          obtain ⟨r111, M112, e113, hf⟩ := z_bpe hf
                          refine z_cV (As := [.int (xs ((l3 + (1 : Int32)).toNatClampNeg))]) (rest := []) B hW (f_X10_hours l e113 h1) sc_X10_hours sv_L_52 h1 ⟨Nat.le_of_ble_eq_true rfl, Nat.le_of_ble_eq_true rfl⟩ ⟨hnc, hns⟩ rfl hl.1 rfl (Nat.le_of_ble_eq_true rfl) dL_law_481 (fun H locs hW => ?_)
                          refine lv_aload_n hx hb dL_law_484 rfl (lv_at hl 2 rfl) ?_
                          refine lv_aload_n hx hb dL_law_485 rfl (lv_at hl 0 rfl) ?_
                          refine lv_iload_n hx hb dL_law_486 rfl (lv_at hl 3 rfl) ?_
                          refine lv_iconst (v := 1) hx hb dL_law_487 (by decide) ?_
                          refine lv_iadd hx hb dL_law_488 ?_
                          obtain ⟨g114, hf⟩ := z_gd hf
                          refine va_sld hx hb hX hbl hbA hW.2.2 g114 dL_law_489 ?_
                          obtain ⟨r115, M116, e117, hf⟩ := z_bpe hf
                          refine z_cV (As := [.int (xs ((l3 + (1 : Int32)).toNatClampNeg))]) (rest := [.int r111]) B hW (f_X11_hours l e117 h2) sc_X11_hours sv_L_55 h2 ⟨Nat.le_of_ble_eq_true rfl, Nat.le_of_ble_eq_true rfl⟩ ⟨hnc, hns⟩ rfl hl.1 rfl (Nat.le_of_ble_eq_true rfl) dL_law_490 (fun H locs hW => ?_)
                          refine lv_icmp_eq (tgt := 1254) hx hb dL_law_493 (by decide) (fun c118 => ?_) (fun c118 => ?_)
                          · have hf := z_it c118 hf
                            refine lv_iinc (v := l3 + (6 : Int32)) (lv' := [(3, .int (l3 + (6 : Int32))), (0, .ref b), (1, .ref l1), (2, .ref l2)]) hx hb dL_law_1254 hl (k := 3) rfl rfl (by decide) rfl (fun ls hl => ?_)
                            refine lv_goto (tgt := 18) hx hb dL_law_1257 (by decide) ?_
                            exact ih M116 l1 l2 (l3 + (6 : Int32)) hf h1 h2 _ _ _ hW (lv_sub hl [1, 2, 3, 0] rfl)
                          · have hf := z_if c118 hf
                            refine lv_iconst (v := 0) hx hb dL_law_496 (by decide) ?_
                            exact absurd (Option.some.inj hf) (by decide)
                        · have hf := z_if c109 hf
                          by_cases c119 : ((xs l3.toNatClampNeg) &&& (63 : Int32)) = (10 : Int32)
                          · have hf := z_it c119 hf
                            refine lv_tableIn (off := 465) (tgt := 498) hx hb dL_law_33 (by rw [c119]; decide) (by rw [c119]; decide) (by rw [c119]; decide) (by decide) ?_
                            refine lv_aload_n hx hb dL_law_498 rfl (lv_at hl 1 rfl) ?_
                            refine lv_aload_n hx hb dL_law_499 rfl (lv_at hl 0 rfl) ?_
                            refine lv_iload_n hx hb dL_law_500 rfl (lv_at hl 3 rfl) ?_
                            refine lv_iconst (v := 1) hx hb dL_law_501 (by decide) ?_
                            refine lv_iadd hx hb dL_law_502 ?_
                            obtain ⟨g120, hf⟩ := z_gd hf
                            refine va_sld hx hb hX hbl hbA hW.2.2 g120 dL_law_503 ?_
                            obtain ⟨r121, M122, e123, hf⟩ := z_bpe hf
                            refine z_cV (As := [.int (xs ((l3 + (1 : Int32)).toNatClampNeg))]) (rest := []) B hW (f_X10_now l e123 h1) sc_X10_now sv_L_56 h1 ⟨Nat.le_of_ble_eq_true rfl, Nat.le_of_ble_eq_true rfl⟩ ⟨hnc, hns⟩ rfl hl.1 rfl (Nat.le_of_ble_eq_true rfl) dL_law_504 (fun H locs hW => ?_)
                            refine lv_aload_n hx hb dL_law_507 rfl (lv_at hl 2 rfl) ?_
                            refine lv_aload_n hx hb dL_law_508 rfl (lv_at hl 0 rfl) ?_
                            refine lv_iload_n hx hb dL_law_509 rfl (lv_at hl 3 rfl) ?_
                            refine lv_iconst (v := 1) hx hb dL_law_510 (by decide) ?_
                            refine lv_iadd hx hb dL_law_511 ?_
                            obtain ⟨g124, hf⟩ := z_gd hf
                            refine va_sld hx hb hX hbl hbA hW.2.2 g124 dL_law_512 ?_
                            obtain ⟨r125, M126, e127, hf⟩ := z_bpe hf
                            refine z_cV (As := [.int (xs ((l3 + (1 : Int32)).toNatClampNeg))]) (rest := [.int r121]) B hW (f_X11_now l e127 h2) sc_X11_now sv_L_59 h2 ⟨Nat.le_of_ble_eq_true rfl, Nat.le_of_ble_eq_true rfl⟩ ⟨hnc, hns⟩ rfl hl.1 rfl (Nat.le_of_ble_eq_true rfl) dL_law_513 (fun H locs hW => ?_)
                            refine lv_icmp_eq (tgt := 1254) hx hb dL_law_516 (by decide) (fun c128 => ?_) (fun c128 => ?_)
                            · have hf := z_it c128 hf
                              refine lv_iinc (v := l3 + (6 : Int32)) (lv' := [(3, .int (l3 + (6 : Int32))), (0, .ref b), (1, .ref l1), (2, .ref l2)]) hx hb dL_law_1254 hl (k := 3) rfl rfl (by decide) rfl (fun ls hl => ?_)
                              refine lv_goto (tgt := 18) hx hb dL_law_1257 (by decide) ?_
                              exact ih M126 l1 l2 (l3 + (6 : Int32)) hf h1 h2 _ _ _ hW (lv_sub hl [1, 2, 3, 0] rfl)
                            · have hf := z_if c128 hf
                              refine lv_iconst (v := 0) hx hb dL_law_519 (by decide) ?_
                              exact absurd (Option.some.inj hf) (by decide)
                          · have hf := z_if c119 hf
                            by_cases c129 : ((xs l3.toNatClampNeg) &&& (63 : Int32)) = (11 : Int32)
                            · have hf := z_it c129 hf
                              refine lv_tableIn (off := 488) (tgt := 521) hx hb dL_law_33 (by rw [c129]; decide) (by rw [c129]; decide) (by rw [c129]; decide) (by decide) ?_
                              refine lv_aload_n hx hb dL_law_521 rfl (lv_at hl 1 rfl) ?_
                              refine lv_aload_n hx hb dL_law_522 rfl (lv_at hl 0 rfl) ?_
                              refine lv_iload_n hx hb dL_law_523 rfl (lv_at hl 3 rfl) ?_
                              refine lv_iconst (v := 1) hx hb dL_law_524 (by decide) ?_
                              refine lv_iadd hx hb dL_law_525 ?_
                              obtain ⟨g130, hf⟩ := z_gd hf
                              refine va_sld hx hb hX hbl hbA hW.2.2 g130 dL_law_526 ?_
                              refine lv_aload_n hx hb dL_law_527 rfl (lv_at hl 0 rfl) ?_
                              refine lv_iload_n hx hb dL_law_528 rfl (lv_at hl 3 rfl) ?_
                              refine lv_iconst (v := 2) hx hb dL_law_529 (by decide) ?_
                              refine lv_iadd hx hb dL_law_530 ?_
                              obtain ⟨g131, hf⟩ := z_gd hf
                              refine va_sld hx hb hX hbl hbA hW.2.2 g131 dL_law_531 ?_
                              refine lv_aload_n hx hb dL_law_532 rfl (lv_at hl 0 rfl) ?_
                              refine lv_iload_n hx hb dL_law_533 rfl (lv_at hl 3 rfl) ?_
                              refine lv_iconst (v := 3) hx hb dL_law_534 (by decide) ?_
                              refine lv_iadd hx hb dL_law_535 ?_
                              obtain ⟨g132, hf⟩ := z_gd hf
                              refine va_sld hx hb hX hbl hbA hW.2.2 g132 dL_law_536 ?_
                              obtain ⟨r133, M134, e135, hf⟩ := z_bpe hf
                              refine z_cV (As := [.int (xs ((l3 + (1 : Int32)).toNatClampNeg)), .int (xs ((l3 + (2 : Int32)).toNatClampNeg)), .int (xs ((l3 + (3 : Int32)).toNatClampNeg))]) (rest := []) B hW (f_X10_on l e135 h1) sc_X10_on sv_L_60 h1 ⟨Nat.le_of_ble_eq_true rfl, Nat.le_of_ble_eq_true rfl⟩ ⟨hnc, hns⟩ rfl hl.1 rfl (Nat.le_of_ble_eq_true rfl) dL_law_537 (fun H locs hW => ?_)
                              refine lv_aload_n hx hb dL_law_540 rfl (lv_at hl 2 rfl) ?_
                              refine lv_aload_n hx hb dL_law_541 rfl (lv_at hl 0 rfl) ?_
                              refine lv_iload_n hx hb dL_law_542 rfl (lv_at hl 3 rfl) ?_
                              refine lv_iconst (v := 1) hx hb dL_law_543 (by decide) ?_
                              refine lv_iadd hx hb dL_law_544 ?_
                              obtain ⟨g136, hf⟩ := z_gd hf
                              refine va_sld hx hb hX hbl hbA hW.2.2 g136 dL_law_545 ?_
                              refine lv_aload_n hx hb dL_law_546 rfl (lv_at hl 0 rfl) ?_
                              refine lv_iload_n hx hb dL_law_547 rfl (lv_at hl 3 rfl) ?_
                              refine lv_iconst (v := 2) hx hb dL_law_548 (by decide) ?_
                              refine lv_iadd hx hb dL_law_549 ?_
                              obtain ⟨g137, hf⟩ := z_gd hf
                              refine va_sld hx hb hX hbl hbA hW.2.2 g137 dL_law_550 ?_
                              refine lv_aload_n hx hb dL_law_551 rfl (lv_at hl 0 rfl) ?_
                              refine lv_iload_n hx hb dL_law_552 rfl (lv_at hl 3 rfl) ?_
                              refine lv_iconst (v := 3) hx hb dL_law_553 (by decide) ?_
                              refine lv_iadd hx hb dL_law_554 ?_
                              obtain ⟨g138, hf⟩ := z_gd hf
                              refine va_sld hx hb hX hbl hbA hW.2.2 g138 dL_law_555 ?_
                              obtain ⟨r139, M140, e141, hf⟩ := z_bpe hf
                              refine z_cV (As := [.int (xs ((l3 + (1 : Int32)).toNatClampNeg)), .int (xs ((l3 + (2 : Int32)).toNatClampNeg)), .int (xs ((l3 + (3 : Int32)).toNatClampNeg))]) (rest := [.int r133]) B hW (f_X11_on l e141 h2) sc_X11_on sv_L_63 h2 ⟨Nat.le_of_ble_eq_true rfl, Nat.le_of_ble_eq_true rfl⟩ ⟨hnc, hns⟩ rfl hl.1 rfl (Nat.le_of_ble_eq_true rfl) dL_law_556 (fun H locs hW => ?_)
                              refine lv_icmp_eq (tgt := 1254) hx hb dL_law_559 (by decide) (fun c142 => ?_) (fun c142 => ?_)
                              · have hf := z_it c142 hf
                                refine lv_iinc (v := l3 + (6 : Int32)) (lv' := [(3, .int (l3 + (6 : Int32))), (0, .ref b), (1, .ref l1), (2, .ref l2)]) hx hb dL_law_1254 hl (k := 3) rfl rfl (by decide) rfl (fun ls hl => ?_)
                                refine lv_goto (tgt := 18) hx hb dL_law_1257 (by decide) ?_
                                exact ih M140 l1 l2 (l3 + (6 : Int32)) hf h1 h2 _ _ _ hW (lv_sub hl [1, 2, 3, 0] rfl)
                              · have hf := z_if c142 hf
                                refine lv_iconst (v := 0) hx hb dL_law_562 (by decide) ?_
                                exact absurd (Option.some.inj hf) (by decide)
                            · have hf := z_if c129 hf
                              by_cases c143 : ((xs l3.toNatClampNeg) &&& (63 : Int32)) = (12 : Int32)
                              · have hf := z_it c143 hf
                                refine lv_tableIn (off := 531) (tgt := 564) hx hb dL_law_33 (by rw [c143]; decide) (by rw [c143]; decide) (by rw [c143]; decide) (by decide) ?_
                                refine lv_aload_n hx hb dL_law_564 rfl (lv_at hl 1 rfl) ?_
                                refine lv_aload_n hx hb dL_law_565 rfl (lv_at hl 0 rfl) ?_
                                refine lv_iload_n hx hb dL_law_566 rfl (lv_at hl 3 rfl) ?_
                                refine lv_iconst (v := 1) hx hb dL_law_567 (by decide) ?_
                                refine lv_iadd hx hb dL_law_568 ?_
                                obtain ⟨g144, hf⟩ := z_gd hf
                                refine va_sld hx hb hX hbl hbA hW.2.2 g144 dL_law_569 ?_
                                refine lv_aload_n hx hb dL_law_570 rfl (lv_at hl 0 rfl) ?_
                                refine lv_iload_n hx hb dL_law_571 rfl (lv_at hl 3 rfl) ?_
                                refine lv_iconst (v := 2) hx hb dL_law_572 (by decide) ?_
                                refine lv_iadd hx hb dL_law_573 ?_
                                obtain ⟨g145, hf⟩ := z_gd hf
                                refine va_sld hx hb hX hbl hbA hW.2.2 g145 dL_law_574 ?_
                                obtain ⟨r146, M147, e148, hf⟩ := z_bpe hf
                                refine z_cV (As := [.int (xs ((l3 + (1 : Int32)).toNatClampNeg)), .int (xs ((l3 + (2 : Int32)).toNatClampNeg))]) (rest := []) B hW (f_X10_knows l e148 h1) sc_X10_knows sv_L_64 h1 ⟨Nat.le_of_ble_eq_true rfl, Nat.le_of_ble_eq_true rfl⟩ ⟨hnc, hns⟩ rfl hl.1 rfl (Nat.le_of_ble_eq_true rfl) dL_law_575 (fun H locs hW => ?_)
                                refine lv_aload_n hx hb dL_law_578 rfl (lv_at hl 2 rfl) ?_
                                refine lv_aload_n hx hb dL_law_579 rfl (lv_at hl 0 rfl) ?_
                                refine lv_iload_n hx hb dL_law_580 rfl (lv_at hl 3 rfl) ?_
                                refine lv_iconst (v := 1) hx hb dL_law_581 (by decide) ?_
                                refine lv_iadd hx hb dL_law_582 ?_
                                obtain ⟨g149, hf⟩ := z_gd hf
                                refine va_sld hx hb hX hbl hbA hW.2.2 g149 dL_law_583 ?_
                                refine lv_aload_n hx hb dL_law_584 rfl (lv_at hl 0 rfl) ?_
                                refine lv_iload_n hx hb dL_law_585 rfl (lv_at hl 3 rfl) ?_
                                refine lv_iconst (v := 2) hx hb dL_law_586 (by decide) ?_
                                refine lv_iadd hx hb dL_law_587 ?_
                                obtain ⟨g150, hf⟩ := z_gd hf
                                refine va_sld hx hb hX hbl hbA hW.2.2 g150 dL_law_588 ?_
                                obtain ⟨r151, M152, e153, hf⟩ := z_bpe hf
                                refine z_cV (As := [.int (xs ((l3 + (1 : Int32)).toNatClampNeg)), .int (xs ((l3 + (2 : Int32)).toNatClampNeg))]) (rest := [.int r146]) B hW (f_X11_knows l e153 h2) sc_X11_knows sv_L_67 h2 ⟨Nat.le_of_ble_eq_true rfl, Nat.le_of_ble_eq_true rfl⟩ ⟨hnc, hns⟩ rfl hl.1 rfl (Nat.le_of_ble_eq_true rfl) dL_law_589 (fun H locs hW => ?_)
                                refine lv_icmp_eq (tgt := 1254) hx hb dL_law_592 (by decide) (fun c154 => ?_) (fun c154 => ?_)
                                · have hf := z_it c154 hf
                                  refine lv_iinc (v := l3 + (6 : Int32)) (lv' := [(3, .int (l3 + (6 : Int32))), (0, .ref b), (1, .ref l1), (2, .ref l2)]) hx hb dL_law_1254 hl (k := 3) rfl rfl (by decide) rfl (fun ls hl => ?_)
                                  refine lv_goto (tgt := 18) hx hb dL_law_1257 (by decide) ?_
                                  exact ih M152 l1 l2 (l3 + (6 : Int32)) hf h1 h2 _ _ _ hW (lv_sub hl [1, 2, 3, 0] rfl)
                                · have hf := z_if c154 hf
                                  refine lv_iconst (v := 0) hx hb dL_law_595 (by decide) ?_
                                  exact absurd (Option.some.inj hf) (by decide)
                              · have hf := z_if c143 hf
                                by_cases c155 : ((xs l3.toNatClampNeg) &&& (63 : Int32)) = (13 : Int32)
                                · have hf := z_it c155 hf
                                  refine lv_tableIn (off := 564) (tgt := 597) hx hb dL_law_33 (by rw [c155]; decide) (by rw [c155]; decide) (by rw [c155]; decide) (by decide) ?_
                                  refine lv_aload_n hx hb dL_law_597 rfl (lv_at hl 1 rfl) ?_
                                  refine lv_aload_n hx hb dL_law_598 rfl (lv_at hl 0 rfl) ?_
                                  refine lv_iload_n hx hb dL_law_599 rfl (lv_at hl 3 rfl) ?_
                                  refine lv_iconst (v := 1) hx hb dL_law_600 (by decide) ?_
                                  refine lv_iadd hx hb dL_law_601 ?_
                                  obtain ⟨g156, hf⟩ := z_gd hf
                                  refine va_sld hx hb hX hbl hbA hW.2.2 g156 dL_law_602 ?_
                                  obtain ⟨r157, M158, e159, hf⟩ := z_bpe hf
                                  refine z_cV (As := [.int (xs ((l3 + (1 : Int32)).toNatClampNeg))]) (rest := []) B hW (f_X10_out l e159 h1) sc_X10_out sv_L_68 h1 ⟨Nat.le_of_ble_eq_true rfl, Nat.le_of_ble_eq_true rfl⟩ ⟨hnc, hns⟩ rfl hl.1 rfl (Nat.le_of_ble_eq_true rfl) dL_law_603 (fun H locs hW => ?_)
                                  refine lv_aload_n hx hb dL_law_606 rfl (lv_at hl 2 rfl) ?_
                                  refine lv_aload_n hx hb dL_law_607 rfl (lv_at hl 0 rfl) ?_
                                  refine lv_iload_n hx hb dL_law_608 rfl (lv_at hl 3 rfl) ?_
                                  refine lv_iconst (v := 1) hx hb dL_law_609 (by decide) ?_
                                  refine lv_iadd hx hb dL_law_610 ?_
                                  obtain ⟨g160, hf⟩ := z_gd hf
                                  refine va_sld hx hb hX hbl hbA hW.2.2 g160 dL_law_611 ?_
                                  obtain ⟨r161, M162, e163, hf⟩ := z_bpe hf
                                  refine z_cV (As := [.int (xs ((l3 + (1 : Int32)).toNatClampNeg))]) (rest := [.int r157]) B hW (f_X11_out l e163 h2) sc_X11_out sv_L_71 h2 ⟨Nat.le_of_ble_eq_true rfl, Nat.le_of_ble_eq_true rfl⟩ ⟨hnc, hns⟩ rfl hl.1 rfl (Nat.le_of_ble_eq_true rfl) dL_law_612 (fun H locs hW => ?_)
                                  refine lv_icmp_eq (tgt := 1254) hx hb dL_law_615 (by decide) (fun c164 => ?_) (fun c164 => ?_)
                                  · have hf := z_it c164 hf
                                    refine lv_iinc (v := l3 + (6 : Int32)) (lv' := [(3, .int (l3 + (6 : Int32))), (0, .ref b), (1, .ref l1), (2, .ref l2)]) hx hb dL_law_1254 hl (k := 3) rfl rfl (by decide) rfl (fun ls hl => ?_)
                                    refine lv_goto (tgt := 18) hx hb dL_law_1257 (by decide) ?_
                                    exact ih M162 l1 l2 (l3 + (6 : Int32)) hf h1 h2 _ _ _ hW (lv_sub hl [1, 2, 3, 0] rfl)
                                  · have hf := z_if c164 hf
                                    refine lv_iconst (v := 0) hx hb dL_law_618 (by decide) ?_
                                    exact absurd (Option.some.inj hf) (by decide)
                                · have hf := z_if c155 hf
                                  by_cases c165 : ((xs l3.toNatClampNeg) &&& (63 : Int32)) = (14 : Int32)
                                  · have hf := z_it c165 hf
                                    refine lv_tableIn (off := 587) (tgt := 620) hx hb dL_law_33 (by rw [c165]; decide) (by rw [c165]; decide) (by rw [c165]; decide) (by decide) ?_
                                    refine lv_aload_n hx hb dL_law_620 rfl (lv_at hl 1 rfl) ?_
                                    refine lv_aload_n hx hb dL_law_621 rfl (lv_at hl 0 rfl) ?_
                                    refine lv_iload_n hx hb dL_law_622 rfl (lv_at hl 3 rfl) ?_
                                    refine lv_iconst (v := 1) hx hb dL_law_623 (by decide) ?_
                                    refine lv_iadd hx hb dL_law_624 ?_
                                    obtain ⟨g166, hf⟩ := z_gd hf
                                    refine va_sld hx hb hX hbl hbA hW.2.2 g166 dL_law_625 ?_
                                    refine lv_aload_n hx hb dL_law_626 rfl (lv_at hl 0 rfl) ?_
                                    refine lv_iload_n hx hb dL_law_627 rfl (lv_at hl 3 rfl) ?_
                                    refine lv_iconst (v := 2) hx hb dL_law_628 (by decide) ?_
                                    refine lv_iadd hx hb dL_law_629 ?_
                                    obtain ⟨g167, hf⟩ := z_gd hf
                                    refine va_sld hx hb hX hbl hbA hW.2.2 g167 dL_law_630 ?_
                                    obtain ⟨r168, M169, e170, hf⟩ := z_bpe hf
                                    refine z_cV (As := [.int (xs ((l3 + (1 : Int32)).toNatClampNeg)), .int (xs ((l3 + (2 : Int32)).toNatClampNeg))]) (rest := []) B hW (f_X10_meet l e170 h1) sc_X10_meet sv_L_72 h1 ⟨Nat.le_of_ble_eq_true rfl, Nat.le_of_ble_eq_true rfl⟩ ⟨hnc, hns⟩ rfl hl.1 rfl (Nat.le_of_ble_eq_true rfl) dL_law_631 (fun H locs hW => ?_)
                                    refine lv_aload_n hx hb dL_law_634 rfl (lv_at hl 2 rfl) ?_
                                    refine lv_aload_n hx hb dL_law_635 rfl (lv_at hl 0 rfl) ?_
                                    refine lv_iload_n hx hb dL_law_636 rfl (lv_at hl 3 rfl) ?_
                                    refine lv_iconst (v := 1) hx hb dL_law_637 (by decide) ?_
                                    refine lv_iadd hx hb dL_law_638 ?_
                                    obtain ⟨g171, hf⟩ := z_gd hf
                                    refine va_sld hx hb hX hbl hbA hW.2.2 g171 dL_law_639 ?_
                                    refine lv_aload_n hx hb dL_law_640 rfl (lv_at hl 0 rfl) ?_
                                    refine lv_iload_n hx hb dL_law_641 rfl (lv_at hl 3 rfl) ?_
                                    refine lv_iconst (v := 2) hx hb dL_law_642 (by decide) ?_
                                    refine lv_iadd hx hb dL_law_643 ?_
                                    obtain ⟨g172, hf⟩ := z_gd hf
                                    refine va_sld hx hb hX hbl hbA hW.2.2 g172 dL_law_644 ?_
                                    obtain ⟨r173, M174, e175, hf⟩ := z_bpe hf
                                    refine z_cV (As := [.int (xs ((l3 + (1 : Int32)).toNatClampNeg)), .int (xs ((l3 + (2 : Int32)).toNatClampNeg))]) (rest := [.int r168]) B hW (f_X11_meet l e175 h2) sc_X11_meet sv_L_75 h2 ⟨Nat.le_of_ble_eq_true rfl, Nat.le_of_ble_eq_true rfl⟩ ⟨hnc, hns⟩ rfl hl.1 rfl (Nat.le_of_ble_eq_true rfl) dL_law_645 (fun H locs hW => ?_)
                                    refine lv_icmp_eq (tgt := 1254) hx hb dL_law_648 (by decide) (fun c176 => ?_) (fun c176 => ?_)
                                    · have hf := z_it c176 hf
                                      refine lv_iinc (v := l3 + (6 : Int32)) (lv' := [(3, .int (l3 + (6 : Int32))), (0, .ref b), (1, .ref l1), (2, .ref l2)]) hx hb dL_law_1254 hl (k := 3) rfl rfl (by decide) rfl (fun ls hl => ?_)
                                      refine lv_goto (tgt := 18) hx hb dL_law_1257 (by decide) ?_
                                      exact ih M174 l1 l2 (l3 + (6 : Int32)) hf h1 h2 _ _ _ hW (lv_sub hl [1, 2, 3, 0] rfl)
                                    · have hf := z_if c176 hf
                                      refine lv_iconst (v := 0) hx hb dL_law_651 (by decide) ?_
                                      exact absurd (Option.some.inj hf) (by decide)
                                  · have hf := z_if c165 hf
                                    by_cases c177 : ((xs l3.toNatClampNeg) &&& (63 : Int32)) = (15 : Int32)
                                    · have hf := z_it c177 hf
                                      refine lv_tableIn (off := 620) (tgt := 653) hx hb dL_law_33 (by rw [c177]; decide) (by rw [c177]; decide) (by rw [c177]; decide) (by decide) ?_
                                      refine lv_aload_n hx hb dL_law_653 rfl (lv_at hl 1 rfl) ?_
                                      refine lv_aload_n hx hb dL_law_654 rfl (lv_at hl 0 rfl) ?_
                                      refine lv_iload_n hx hb dL_law_655 rfl (lv_at hl 3 rfl) ?_
                                      refine lv_iconst (v := 1) hx hb dL_law_656 (by decide) ?_
                                      refine lv_iadd hx hb dL_law_657 ?_
                                      obtain ⟨g178, hf⟩ := z_gd hf
                                      refine va_sld hx hb hX hbl hbA hW.2.2 g178 dL_law_658 ?_
                                      refine lv_aload_n hx hb dL_law_659 rfl (lv_at hl 0 rfl) ?_
                                      refine lv_iload_n hx hb dL_law_660 rfl (lv_at hl 3 rfl) ?_
                                      refine lv_iconst (v := 2) hx hb dL_law_661 (by decide) ?_
                                      refine lv_iadd hx hb dL_law_662 ?_
                                      obtain ⟨g179, hf⟩ := z_gd hf
                                      refine va_sld hx hb hX hbl hbA hW.2.2 g179 dL_law_663 ?_
                                      obtain ⟨r180, M181, e182, hf⟩ := z_bpe hf
                                      refine z_cV (As := [.int (xs ((l3 + (1 : Int32)).toNatClampNeg)), .int (xs ((l3 + (2 : Int32)).toNatClampNeg))]) (rest := []) B hW (f_X10_kind l e182 h1) sc_X10_kind sv_L_76 h1 ⟨Nat.le_of_ble_eq_true rfl, Nat.le_of_ble_eq_true rfl⟩ ⟨hnc, hns⟩ rfl hl.1 rfl (Nat.le_of_ble_eq_true rfl) dL_law_664 (fun H locs hW => ?_)
                                      refine lv_aload_n hx hb dL_law_667 rfl (lv_at hl 2 rfl) ?_
                                      refine lv_aload_n hx hb dL_law_668 rfl (lv_at hl 0 rfl) ?_
                                      refine lv_iload_n hx hb dL_law_669 rfl (lv_at hl 3 rfl) ?_
                                      refine lv_iconst (v := 1) hx hb dL_law_670 (by decide) ?_
                                      refine lv_iadd hx hb dL_law_671 ?_
                                      obtain ⟨g183, hf⟩ := z_gd hf
                                      refine va_sld hx hb hX hbl hbA hW.2.2 g183 dL_law_672 ?_
                                      refine lv_aload_n hx hb dL_law_673 rfl (lv_at hl 0 rfl) ?_
                                      refine lv_iload_n hx hb dL_law_674 rfl (lv_at hl 3 rfl) ?_
                                      refine lv_iconst (v := 2) hx hb dL_law_675 (by decide) ?_
                                      refine lv_iadd hx hb dL_law_676 ?_
                                      obtain ⟨g184, hf⟩ := z_gd hf
                                      refine va_sld hx hb hX hbl hbA hW.2.2 g184 dL_law_677 ?_
                                      obtain ⟨r185, M186, e187, hf⟩ := z_bpe hf
                                      refine z_cV (As := [.int (xs ((l3 + (1 : Int32)).toNatClampNeg)), .int (xs ((l3 + (2 : Int32)).toNatClampNeg))]) (rest := [.int r180]) B hW (f_X11_kind l e187 h2) sc_X11_kind sv_L_79 h2 ⟨Nat.le_of_ble_eq_true rfl, Nat.le_of_ble_eq_true rfl⟩ ⟨hnc, hns⟩ rfl hl.1 rfl (Nat.le_of_ble_eq_true rfl) dL_law_678 (fun H locs hW => ?_)
                                      refine lv_icmp_eq (tgt := 1254) hx hb dL_law_681 (by decide) (fun c188 => ?_) (fun c188 => ?_)
                                      · have hf := z_it c188 hf
                                        refine lv_iinc (v := l3 + (6 : Int32)) (lv' := [(3, .int (l3 + (6 : Int32))), (0, .ref b), (1, .ref l1), (2, .ref l2)]) hx hb dL_law_1254 hl (k := 3) rfl rfl (by decide) rfl (fun ls hl => ?_)
                                        refine lv_goto (tgt := 18) hx hb dL_law_1257 (by decide) ?_
                                        exact ih M186 l1 l2 (l3 + (6 : Int32)) hf h1 h2 _ _ _ hW (lv_sub hl [1, 2, 3, 0] rfl)
                                      · have hf := z_if c188 hf
                                        refine lv_iconst (v := 0) hx hb dL_law_684 (by decide) ?_
                                        exact absurd (Option.some.inj hf) (by decide)
                                    · have hf := z_if c177 hf
                                      by_cases c189 : ((xs l3.toNatClampNeg) &&& (63 : Int32)) = (16 : Int32)
                                      · have hf := z_it c189 hf
                                        refine lv_tableIn (off := 653) (tgt := 686) hx hb dL_law_33 (by rw [c189]; decide) (by rw [c189]; decide) (by rw [c189]; decide) (by decide) ?_
                                        refine lv_aload_n hx hb dL_law_686 rfl (lv_at hl 1 rfl) ?_
                                        refine lv_aload_n hx hb dL_law_687 rfl (lv_at hl 0 rfl) ?_
                                        refine lv_iload_n hx hb dL_law_688 rfl (lv_at hl 3 rfl) ?_
                                        refine lv_iconst (v := 1) hx hb dL_law_689 (by decide) ?_
                                        refine lv_iadd hx hb dL_law_690 ?_
                                        obtain ⟨g190, hf⟩ := z_gd hf
                                        refine va_sld hx hb hX hbl hbA hW.2.2 g190 dL_law_691 ?_
                                        refine lv_aload_n hx hb dL_law_692 rfl (lv_at hl 0 rfl) ?_
                                        refine lv_iload_n hx hb dL_law_693 rfl (lv_at hl 3 rfl) ?_
                                        refine lv_iconst (v := 2) hx hb dL_law_694 (by decide) ?_
                                        refine lv_iadd hx hb dL_law_695 ?_
                                        obtain ⟨g191, hf⟩ := z_gd hf
                                        refine va_sld hx hb hX hbl hbA hW.2.2 g191 dL_law_696 ?_
                                        obtain ⟨r192, M193, e194, hf⟩ := z_bpe hf
                                        refine z_cV (As := [.int (xs ((l3 + (1 : Int32)).toNatClampNeg)), .int (xs ((l3 + (2 : Int32)).toNatClampNeg))]) (rest := []) B hW (f_X10_forget l e194 h1) sc_X10_forget sv_L_80 h1 ⟨Nat.le_of_ble_eq_true rfl, Nat.le_of_ble_eq_true rfl⟩ ⟨hnc, hns⟩ rfl hl.1 rfl (Nat.le_of_ble_eq_true rfl) dL_law_697 (fun H locs hW => ?_)
                                        refine lv_aload_n hx hb dL_law_700 rfl (lv_at hl 2 rfl) ?_
                                        refine lv_aload_n hx hb dL_law_701 rfl (lv_at hl 0 rfl) ?_
                                        refine lv_iload_n hx hb dL_law_702 rfl (lv_at hl 3 rfl) ?_
                                        refine lv_iconst (v := 1) hx hb dL_law_703 (by decide) ?_
                                        refine lv_iadd hx hb dL_law_704 ?_
                                        obtain ⟨g195, hf⟩ := z_gd hf
                                        refine va_sld hx hb hX hbl hbA hW.2.2 g195 dL_law_705 ?_
                                        refine lv_aload_n hx hb dL_law_706 rfl (lv_at hl 0 rfl) ?_
                                        refine lv_iload_n hx hb dL_law_707 rfl (lv_at hl 3 rfl) ?_
                                        refine lv_iconst (v := 2) hx hb dL_law_708 (by decide) ?_
                                        refine lv_iadd hx hb dL_law_709 ?_
                                        obtain ⟨g196, hf⟩ := z_gd hf
                                        refine va_sld hx hb hX hbl hbA hW.2.2 g196 dL_law_710 ?_
                                        obtain ⟨r197, M198, e199, hf⟩ := z_bpe hf
                                        refine z_cV (As := [.int (xs ((l3 + (1 : Int32)).toNatClampNeg)), .int (xs ((l3 + (2 : Int32)).toNatClampNeg))]) (rest := [.int r192]) B hW (f_X11_forget l e199 h2) sc_X11_forget sv_L_83 h2 ⟨Nat.le_of_ble_eq_true rfl, Nat.le_of_ble_eq_true rfl⟩ ⟨hnc, hns⟩ rfl hl.1 rfl (Nat.le_of_ble_eq_true rfl) dL_law_711 (fun H locs hW => ?_)
                                        refine lv_icmp_eq (tgt := 1254) hx hb dL_law_714 (by decide) (fun c200 => ?_) (fun c200 => ?_)
                                        · have hf := z_it c200 hf
                                          refine lv_iinc (v := l3 + (6 : Int32)) (lv' := [(3, .int (l3 + (6 : Int32))), (0, .ref b), (1, .ref l1), (2, .ref l2)]) hx hb dL_law_1254 hl (k := 3) rfl rfl (by decide) rfl (fun ls hl => ?_)
                                          refine lv_goto (tgt := 18) hx hb dL_law_1257 (by decide) ?_
                                          exact ih M198 l1 l2 (l3 + (6 : Int32)) hf h1 h2 _ _ _ hW (lv_sub hl [1, 2, 3, 0] rfl)
                                        · have hf := z_if c200 hf
                                          refine lv_iconst (v := 0) hx hb dL_law_717 (by decide) ?_
                                          exact absurd (Option.some.inj hf) (by decide)
                                      · have hf := z_if c189 hf
                                        by_cases c201 : ((xs l3.toNatClampNeg) &&& (63 : Int32)) = (17 : Int32)
                                        · have hf := z_it c201 hf
                                          refine lv_tableIn (off := 686) (tgt := 719) hx hb dL_law_33 (by rw [c201]; decide) (by rw [c201]; decide) (by rw [c201]; decide) (by decide) ?_
                                          refine lv_aload_n hx hb dL_law_719 rfl (lv_at hl 1 rfl) ?_
                                          refine lv_aload_n hx hb dL_law_720 rfl (lv_at hl 0 rfl) ?_
                                          refine lv_iload_n hx hb dL_law_721 rfl (lv_at hl 3 rfl) ?_
                                          refine lv_iconst (v := 1) hx hb dL_law_722 (by decide) ?_
                                          refine lv_iadd hx hb dL_law_723 ?_
                                          obtain ⟨g202, hf⟩ := z_gd hf
                                          refine va_sld hx hb hX hbl hbA hW.2.2 g202 dL_law_724 ?_
                                          refine lv_aload_n hx hb dL_law_725 rfl (lv_at hl 0 rfl) ?_
                                          refine lv_iload_n hx hb dL_law_726 rfl (lv_at hl 3 rfl) ?_
                                          refine lv_iconst (v := 2) hx hb dL_law_727 (by decide) ?_
                                          refine lv_iadd hx hb dL_law_728 ?_
                                          obtain ⟨g203, hf⟩ := z_gd hf
                                          refine va_sld hx hb hX hbl hbA hW.2.2 g203 dL_law_729 ?_
                                          obtain ⟨r204, M205, e206, hf⟩ := z_bpe hf
                                          refine z_cV (As := [.int (xs ((l3 + (1 : Int32)).toNatClampNeg)), .int (xs ((l3 + (2 : Int32)).toNatClampNeg))]) (rest := []) B hW (f_X10_confide l e206 h1) sc_X10_confide sv_L_84 h1 ⟨Nat.le_of_ble_eq_true rfl, Nat.le_of_ble_eq_true rfl⟩ ⟨hnc, hns⟩ rfl hl.1 rfl (Nat.le_of_ble_eq_true rfl) dL_law_730 (fun H locs hW => ?_)
                                          refine lv_aload_n hx hb dL_law_733 rfl (lv_at hl 2 rfl) ?_
                                          refine lv_aload_n hx hb dL_law_734 rfl (lv_at hl 0 rfl) ?_
                                          refine lv_iload_n hx hb dL_law_735 rfl (lv_at hl 3 rfl) ?_
                                          refine lv_iconst (v := 1) hx hb dL_law_736 (by decide) ?_
                                          refine lv_iadd hx hb dL_law_737 ?_
                                          obtain ⟨g207, hf⟩ := z_gd hf
                                          refine va_sld hx hb hX hbl hbA hW.2.2 g207 dL_law_738 ?_
                                          refine lv_aload_n hx hb dL_law_739 rfl (lv_at hl 0 rfl) ?_
                                          refine lv_iload_n hx hb dL_law_740 rfl (lv_at hl 3 rfl) ?_
                                          refine lv_iconst (v := 2) hx hb dL_law_741 (by decide) ?_
                                          refine lv_iadd hx hb dL_law_742 ?_
                                          obtain ⟨g208, hf⟩ := z_gd hf
                                          refine va_sld hx hb hX hbl hbA hW.2.2 g208 dL_law_743 ?_
                                          obtain ⟨r209, M210, e211, hf⟩ := z_bpe hf
                                          refine z_cV (As := [.int (xs ((l3 + (1 : Int32)).toNatClampNeg)), .int (xs ((l3 + (2 : Int32)).toNatClampNeg))]) (rest := [.int r204]) B hW (f_X11_confide l e211 h2) sc_X11_confide sv_L_87 h2 ⟨Nat.le_of_ble_eq_true rfl, Nat.le_of_ble_eq_true rfl⟩ ⟨hnc, hns⟩ rfl hl.1 rfl (Nat.le_of_ble_eq_true rfl) dL_law_744 (fun H locs hW => ?_)
                                          refine lv_icmp_eq (tgt := 1254) hx hb dL_law_747 (by decide) (fun c212 => ?_) (fun c212 => ?_)
                                          · have hf := z_it c212 hf
                                            refine lv_iinc (v := l3 + (6 : Int32)) (lv' := [(3, .int (l3 + (6 : Int32))), (0, .ref b), (1, .ref l1), (2, .ref l2)]) hx hb dL_law_1254 hl (k := 3) rfl rfl (by decide) rfl (fun ls hl => ?_)
                                            refine lv_goto (tgt := 18) hx hb dL_law_1257 (by decide) ?_
                                            exact ih M210 l1 l2 (l3 + (6 : Int32)) hf h1 h2 _ _ _ hW (lv_sub hl [1, 2, 3, 0] rfl)
                                          · have hf := z_if c212 hf
                                            refine lv_iconst (v := 0) hx hb dL_law_750 (by decide) ?_
                                            exact absurd (Option.some.inj hf) (by decide)
                                        · have hf := z_if c201 hf
                                          by_cases c213 : ((xs l3.toNatClampNeg) &&& (63 : Int32)) = (18 : Int32)
                                          · have hf := z_it c213 hf
                                            refine lv_tableIn (off := 719) (tgt := 752) hx hb dL_law_33 (by rw [c213]; decide) (by rw [c213]; decide) (by rw [c213]; decide) (by decide) ?_
                                            refine lv_aload_n hx hb dL_law_752 rfl (lv_at hl 1 rfl) ?_
                                            refine lv_aload_n hx hb dL_law_753 rfl (lv_at hl 0 rfl) ?_
                                            refine lv_iload_n hx hb dL_law_754 rfl (lv_at hl 3 rfl) ?_
                                            refine lv_iconst (v := 1) hx hb dL_law_755 (by decide) ?_
                                            refine lv_iadd hx hb dL_law_756 ?_
                                            obtain ⟨g214, hf⟩ := z_gd hf
                                            refine va_sld hx hb hX hbl hbA hW.2.2 g214 dL_law_757 ?_
                                            refine lv_aload_n hx hb dL_law_758 rfl (lv_at hl 0 rfl) ?_
                                            refine lv_iload_n hx hb dL_law_759 rfl (lv_at hl 3 rfl) ?_
                                            refine lv_iconst (v := 2) hx hb dL_law_760 (by decide) ?_
                                            refine lv_iadd hx hb dL_law_761 ?_
                                            obtain ⟨g215, hf⟩ := z_gd hf
                                            refine va_sld hx hb hX hbl hbA hW.2.2 g215 dL_law_762 ?_
                                            obtain ⟨r216, M217, e218, hf⟩ := z_bpe hf
                                            refine z_cV (As := [.int (xs ((l3 + (1 : Int32)).toNatClampNeg)), .int (xs ((l3 + (2 : Int32)).toNatClampNeg))]) (rest := []) B hW (f_X10_enough l e218 h1) sc_X10_enough sv_L_88 h1 ⟨Nat.le_of_ble_eq_true rfl, Nat.le_of_ble_eq_true rfl⟩ ⟨hnc, hns⟩ rfl hl.1 rfl (Nat.le_of_ble_eq_true rfl) dL_law_763 (fun H locs hW => ?_)
                                            refine lv_aload_n hx hb dL_law_766 rfl (lv_at hl 2 rfl) ?_
                                            refine lv_aload_n hx hb dL_law_767 rfl (lv_at hl 0 rfl) ?_
                                            refine lv_iload_n hx hb dL_law_768 rfl (lv_at hl 3 rfl) ?_
                                            refine lv_iconst (v := 1) hx hb dL_law_769 (by decide) ?_
                                            refine lv_iadd hx hb dL_law_770 ?_
                                            obtain ⟨g219, hf⟩ := z_gd hf
                                            refine va_sld hx hb hX hbl hbA hW.2.2 g219 dL_law_771 ?_
                                            refine lv_aload_n hx hb dL_law_772 rfl (lv_at hl 0 rfl) ?_
                                            refine lv_iload_n hx hb dL_law_773 rfl (lv_at hl 3 rfl) ?_
                                            refine lv_iconst (v := 2) hx hb dL_law_774 (by decide) ?_
                                            refine lv_iadd hx hb dL_law_775 ?_
                                            obtain ⟨g220, hf⟩ := z_gd hf
                                            refine va_sld hx hb hX hbl hbA hW.2.2 g220 dL_law_776 ?_
                                            obtain ⟨r221, M222, e223, hf⟩ := z_bpe hf
                                            refine z_cV (As := [.int (xs ((l3 + (1 : Int32)).toNatClampNeg)), .int (xs ((l3 + (2 : Int32)).toNatClampNeg))]) (rest := [.int r216]) B hW (f_X11_enough l e223 h2) sc_X11_enough sv_L_91 h2 ⟨Nat.le_of_ble_eq_true rfl, Nat.le_of_ble_eq_true rfl⟩ ⟨hnc, hns⟩ rfl hl.1 rfl (Nat.le_of_ble_eq_true rfl) dL_law_777 (fun H locs hW => ?_)
                                            refine lv_icmp_eq (tgt := 1254) hx hb dL_law_780 (by decide) (fun c224 => ?_) (fun c224 => ?_)
                                            · have hf := z_it c224 hf
                                              refine lv_iinc (v := l3 + (6 : Int32)) (lv' := [(3, .int (l3 + (6 : Int32))), (0, .ref b), (1, .ref l1), (2, .ref l2)]) hx hb dL_law_1254 hl (k := 3) rfl rfl (by decide) rfl (fun ls hl => ?_)
                                              refine lv_goto (tgt := 18) hx hb dL_law_1257 (by decide) ?_
                                              exact ih M222 l1 l2 (l3 + (6 : Int32)) hf h1 h2 _ _ _ hW (lv_sub hl [1, 2, 3, 0] rfl)
                                            · have hf := z_if c224 hf
                                              refine lv_iconst (v := 0) hx hb dL_law_783 (by decide) ?_
                                              exact absurd (Option.some.inj hf) (by decide)
                                          · have hf := z_if c213 hf
                                            by_cases c225 : ((xs l3.toNatClampNeg) &&& (63 : Int32)) = (19 : Int32)
                                            · have hf := z_it c225 hf
                                              refine lv_tableIn (off := 752) (tgt := 785) hx hb dL_law_33 (by rw [c225]; decide) (by rw [c225]; decide) (by rw [c225]; decide) (by decide) ?_
                                              refine lv_aload_n hx hb dL_law_785 rfl (lv_at hl 1 rfl) ?_
                                              refine lv_aload_n hx hb dL_law_786 rfl (lv_at hl 0 rfl) ?_
                                              refine lv_iload_n hx hb dL_law_787 rfl (lv_at hl 3 rfl) ?_
                                              refine lv_iconst (v := 1) hx hb dL_law_788 (by decide) ?_
                                              refine lv_iadd hx hb dL_law_789 ?_
                                              obtain ⟨g226, hf⟩ := z_gd hf
                                              refine va_sld hx hb hX hbl hbA hW.2.2 g226 dL_law_790 ?_
                                              obtain ⟨r227, M228, e229, hf⟩ := z_bpe hf
                                              refine z_cV (As := [.int (xs ((l3 + (1 : Int32)).toNatClampNeg))]) (rest := []) B hW (f_X10_doubt l e229 h1) sc_X10_doubt sv_L_92 h1 ⟨Nat.le_of_ble_eq_true rfl, Nat.le_of_ble_eq_true rfl⟩ ⟨hnc, hns⟩ rfl hl.1 rfl (Nat.le_of_ble_eq_true rfl) dL_law_791 (fun H locs hW => ?_)
                                              refine lv_aload_n hx hb dL_law_794 rfl (lv_at hl 2 rfl) ?_
                                              refine lv_aload_n hx hb dL_law_795 rfl (lv_at hl 0 rfl) ?_
                                              refine lv_iload_n hx hb dL_law_796 rfl (lv_at hl 3 rfl) ?_
                                              refine lv_iconst (v := 1) hx hb dL_law_797 (by decide) ?_
                                              refine lv_iadd hx hb dL_law_798 ?_
                                              obtain ⟨g230, hf⟩ := z_gd hf
                                              refine va_sld hx hb hX hbl hbA hW.2.2 g230 dL_law_799 ?_
                                              obtain ⟨r231, M232, e233, hf⟩ := z_bpe hf
                                              refine z_cV (As := [.int (xs ((l3 + (1 : Int32)).toNatClampNeg))]) (rest := [.int r227]) B hW (f_X11_doubt l e233 h2) sc_X11_doubt sv_L_95 h2 ⟨Nat.le_of_ble_eq_true rfl, Nat.le_of_ble_eq_true rfl⟩ ⟨hnc, hns⟩ rfl hl.1 rfl (Nat.le_of_ble_eq_true rfl) dL_law_800 (fun H locs hW => ?_)
                                              refine lv_icmp_eq (tgt := 1254) hx hb dL_law_803 (by decide) (fun c234 => ?_) (fun c234 => ?_)
                                              · have hf := z_it c234 hf
                                                refine lv_iinc (v := l3 + (6 : Int32)) (lv' := [(3, .int (l3 + (6 : Int32))), (0, .ref b), (1, .ref l1), (2, .ref l2)]) hx hb dL_law_1254 hl (k := 3) rfl rfl (by decide) rfl (fun ls hl => ?_)
                                                refine lv_goto (tgt := 18) hx hb dL_law_1257 (by decide) ?_
                                                exact ih M232 l1 l2 (l3 + (6 : Int32)) hf h1 h2 _ _ _ hW (lv_sub hl [1, 2, 3, 0] rfl)
                                              · have hf := z_if c234 hf
                                                refine lv_iconst (v := 0) hx hb dL_law_806 (by decide) ?_
                                                exact absurd (Option.some.inj hf) (by decide)
                                            · have hf := z_if c225 hf
                                              by_cases c235 : ((xs l3.toNatClampNeg) &&& (63 : Int32)) = (20 : Int32)
                                              · have hf := z_it c235 hf
                                                refine lv_tableIn (off := 775) (tgt := 808) hx hb dL_law_33 (by rw [c235]; decide) (by rw [c235]; decide) (by rw [c235]; decide) (by decide) ?_
                                                refine lv_aload_n hx hb dL_law_808 rfl (lv_at hl 1 rfl) ?_
                                                refine lv_aload_n hx hb dL_law_809 rfl (lv_at hl 0 rfl) ?_
                                                refine lv_iload_n hx hb dL_law_810 rfl (lv_at hl 3 rfl) ?_
                                                refine lv_iconst (v := 1) hx hb dL_law_811 (by decide) ?_
                                                refine lv_iadd hx hb dL_law_812 ?_
                                                obtain ⟨g236, hf⟩ := z_gd hf
                                                refine va_sld hx hb hX hbl hbA hW.2.2 g236 dL_law_813 ?_
                                                obtain ⟨r237, M238, e239, hf⟩ := z_bpe hf
                                                refine z_cV (As := [.int (xs ((l3 + (1 : Int32)).toNatClampNeg))]) (rest := []) B hW (f_X10_wisest l e239 h1) sc_X10_wisest sv_L_96 h1 ⟨Nat.le_of_ble_eq_true rfl, Nat.le_of_ble_eq_true rfl⟩ ⟨hnc, hns⟩ rfl hl.1 rfl (Nat.le_of_ble_eq_true rfl) dL_law_814 (fun H locs hW => ?_)
                                                refine lv_aload_n hx hb dL_law_817 rfl (lv_at hl 2 rfl) ?_
                                                refine lv_aload_n hx hb dL_law_818 rfl (lv_at hl 0 rfl) ?_
                                                refine lv_iload_n hx hb dL_law_819 rfl (lv_at hl 3 rfl) ?_
                                                refine lv_iconst (v := 1) hx hb dL_law_820 (by decide) ?_
                                                refine lv_iadd hx hb dL_law_821 ?_
                                                obtain ⟨g240, hf⟩ := z_gd hf
                                                refine va_sld hx hb hX hbl hbA hW.2.2 g240 dL_law_822 ?_
                                                obtain ⟨r241, M242, e243, hf⟩ := z_bpe hf
                                                refine z_cV (As := [.int (xs ((l3 + (1 : Int32)).toNatClampNeg))]) (rest := [.int r237]) B hW (f_X11_wisest l e243 h2) sc_X11_wisest sv_L_99 h2 ⟨Nat.le_of_ble_eq_true rfl, Nat.le_of_ble_eq_true rfl⟩ ⟨hnc, hns⟩ rfl hl.1 rfl (Nat.le_of_ble_eq_true rfl) dL_law_823 (fun H locs hW => ?_)
                                                refine lv_icmp_eq (tgt := 1254) hx hb dL_law_826 (by decide) (fun c244 => ?_) (fun c244 => ?_)
                                                · have hf := z_it c244 hf
                                                  refine lv_iinc (v := l3 + (6 : Int32)) (lv' := [(3, .int (l3 + (6 : Int32))), (0, .ref b), (1, .ref l1), (2, .ref l2)]) hx hb dL_law_1254 hl (k := 3) rfl rfl (by decide) rfl (fun ls hl => ?_)
                                                  refine lv_goto (tgt := 18) hx hb dL_law_1257 (by decide) ?_
                                                  exact ih M242 l1 l2 (l3 + (6 : Int32)) hf h1 h2 _ _ _ hW (lv_sub hl [1, 2, 3, 0] rfl)
                                                · have hf := z_if c244 hf
                                                  refine lv_iconst (v := 0) hx hb dL_law_829 (by decide) ?_
                                                  exact absurd (Option.some.inj hf) (by decide)
                                              · have hf := z_if c235 hf
                                                by_cases c245 : ((xs l3.toNatClampNeg) &&& (63 : Int32)) = (21 : Int32)
                                                · have hf := z_it c245 hf
                                                  refine lv_tableIn (off := 798) (tgt := 831) hx hb dL_law_33 (by rw [c245]; decide) (by rw [c245]; decide) (by rw [c245]; decide) (by decide) ?_
                                                  refine lv_aload_n hx hb dL_law_831 rfl (lv_at hl 1 rfl) ?_
                                                  refine lv_aload_n hx hb dL_law_832 rfl (lv_at hl 0 rfl) ?_
                                                  refine lv_iload_n hx hb dL_law_833 rfl (lv_at hl 3 rfl) ?_
                                                  refine lv_iconst (v := 1) hx hb dL_law_834 (by decide) ?_
                                                  refine lv_iadd hx hb dL_law_835 ?_
                                                  obtain ⟨g246, hf⟩ := z_gd hf
                                                  refine va_sld hx hb hX hbl hbA hW.2.2 g246 dL_law_836 ?_
                                                  refine lv_aload_n hx hb dL_law_837 rfl (lv_at hl 0 rfl) ?_
                                                  refine lv_iload_n hx hb dL_law_838 rfl (lv_at hl 3 rfl) ?_
                                                  refine lv_iconst (v := 2) hx hb dL_law_839 (by decide) ?_
                                                  refine lv_iadd hx hb dL_law_840 ?_
                                                  obtain ⟨g247, hf⟩ := z_gd hf
                                                  refine va_sld hx hb hX hbl hbA hW.2.2 g247 dL_law_841 ?_
                                                  obtain ⟨r248, M249, e250, hf⟩ := z_bpe hf
                                                  refine z_cV (As := [.int (xs ((l3 + (1 : Int32)).toNatClampNeg)), .int (xs ((l3 + (2 : Int32)).toNatClampNeg))]) (rest := []) B hW (f_X10_feed l e250 h1) sc_X10_feed sv_L_100 h1 ⟨Nat.le_of_ble_eq_true rfl, Nat.le_of_ble_eq_true rfl⟩ ⟨hnc, hns⟩ rfl hl.1 rfl (Nat.le_of_ble_eq_true rfl) dL_law_842 (fun H locs hW => ?_)
                                                  refine lv_aload_n hx hb dL_law_845 rfl (lv_at hl 2 rfl) ?_
                                                  refine lv_aload_n hx hb dL_law_846 rfl (lv_at hl 0 rfl) ?_
                                                  refine lv_iload_n hx hb dL_law_847 rfl (lv_at hl 3 rfl) ?_
                                                  refine lv_iconst (v := 1) hx hb dL_law_848 (by decide) ?_
                                                  refine lv_iadd hx hb dL_law_849 ?_
                                                  obtain ⟨g251, hf⟩ := z_gd hf
                                                  refine va_sld hx hb hX hbl hbA hW.2.2 g251 dL_law_850 ?_
                                                  refine lv_aload_n hx hb dL_law_851 rfl (lv_at hl 0 rfl) ?_
                                                  refine lv_iload_n hx hb dL_law_852 rfl (lv_at hl 3 rfl) ?_
                                                  refine lv_iconst (v := 2) hx hb dL_law_853 (by decide) ?_
                                                  refine lv_iadd hx hb dL_law_854 ?_
                                                  obtain ⟨g252, hf⟩ := z_gd hf
                                                  refine va_sld hx hb hX hbl hbA hW.2.2 g252 dL_law_855 ?_
                                                  obtain ⟨r253, M254, e255, hf⟩ := z_bpe hf
                                                  refine z_cV (As := [.int (xs ((l3 + (1 : Int32)).toNatClampNeg)), .int (xs ((l3 + (2 : Int32)).toNatClampNeg))]) (rest := [.int r248]) B hW (f_X11_feed l e255 h2) sc_X11_feed sv_L_103 h2 ⟨Nat.le_of_ble_eq_true rfl, Nat.le_of_ble_eq_true rfl⟩ ⟨hnc, hns⟩ rfl hl.1 rfl (Nat.le_of_ble_eq_true rfl) dL_law_856 (fun H locs hW => ?_)
                                                  refine lv_icmp_eq (tgt := 1254) hx hb dL_law_859 (by decide) (fun c256 => ?_) (fun c256 => ?_)
                                                  · have hf := z_it c256 hf
                                                    refine lv_iinc (v := l3 + (6 : Int32)) (lv' := [(3, .int (l3 + (6 : Int32))), (0, .ref b), (1, .ref l1), (2, .ref l2)]) hx hb dL_law_1254 hl (k := 3) rfl rfl (by decide) rfl (fun ls hl => ?_)
                                                    refine lv_goto (tgt := 18) hx hb dL_law_1257 (by decide) ?_
                                                    exact ih M254 l1 l2 (l3 + (6 : Int32)) hf h1 h2 _ _ _ hW (lv_sub hl [1, 2, 3, 0] rfl)
                                                  · have hf := z_if c256 hf
                                                    refine lv_iconst (v := 0) hx hb dL_law_862 (by decide) ?_
                                                    exact absurd (Option.some.inj hf) (by decide)
                                                · have hf := z_if c245 hf
                                                  by_cases c257 : ((xs l3.toNatClampNeg) &&& (63 : Int32)) = (22 : Int32)
                                                  · have hf := z_it c257 hf
                                                    refine lv_tableIn (off := 831) (tgt := 864) hx hb dL_law_33 (by rw [c257]; decide) (by rw [c257]; decide) (by rw [c257]; decide) (by decide) ?_
                                                    refine lv_aload_n hx hb dL_law_864 rfl (lv_at hl 1 rfl) ?_
                                                    obtain ⟨r258, M259, e260, hf⟩ := z_lpe hf
                                                    refine z_cV (As := []) (rest := []) B hW (f_X10_wipe l e260 h1) sc_X10_wipe sv_L_104 h1 ⟨Nat.le_of_ble_eq_true rfl, Nat.le_of_ble_eq_true rfl⟩ ⟨hnc, hns⟩ rfl hl.1 rfl (Nat.le_of_ble_eq_true rfl) dL_law_865 (fun H locs hW => ?_)
                                                    refine lv_aload_n hx hb dL_law_868 rfl (lv_at hl 2 rfl) ?_
                                                    obtain ⟨r261, M262, e263, hf⟩ := z_lpe hf
                                                    refine z_cV (As := []) (rest := [.int r258]) B hW (f_X11_wipe l e263 h2) sc_X11_wipe sv_L_108 h2 ⟨Nat.le_of_ble_eq_true rfl, Nat.le_of_ble_eq_true rfl⟩ ⟨hnc, hns⟩ rfl hl.1 rfl (Nat.le_of_ble_eq_true rfl) dL_law_869 (fun H locs hW => ?_)
                                                    refine lv_icmp_eq (tgt := 1254) hx hb dL_law_872 (by decide) (fun c264 => ?_) (fun c264 => ?_)
                                                    · have hf := z_it c264 hf
                                                      refine lv_iinc (v := l3 + (6 : Int32)) (lv' := [(3, .int (l3 + (6 : Int32))), (0, .ref b), (1, .ref l1), (2, .ref l2)]) hx hb dL_law_1254 hl (k := 3) rfl rfl (by decide) rfl (fun ls hl => ?_)
                                                      refine lv_goto (tgt := 18) hx hb dL_law_1257 (by decide) ?_
                                                      exact ih M262 l1 l2 (l3 + (6 : Int32)) hf h1 h2 _ _ _ hW (lv_sub hl [1, 2, 3, 0] rfl)
                                                    · have hf := z_if c264 hf
                                                      refine lv_iconst (v := 0) hx hb dL_law_875 (by decide) ?_
                                                      exact absurd (Option.some.inj hf) (by decide)
                                                  · have hf := z_if c257 hf
                                                    by_cases c265 : ((xs l3.toNatClampNeg) &&& (63 : Int32)) = (23 : Int32)
                                                    · have hf := z_it c265 hf
                                                      refine lv_tableIn (off := 844) (tgt := 877) hx hb dL_law_33 (by rw [c265]; decide) (by rw [c265]; decide) (by rw [c265]; decide) (by decide) ?_
                                                      refine lv_aload_n hx hb dL_law_877 rfl (lv_at hl 1 rfl) ?_
                                                      obtain ⟨r266, M267, e268, hf⟩ := z_bpe hf
                                                      refine z_cV (As := []) (rest := []) B hW (f_X10_park l e268 h1) sc_X10_park sv_L_109 h1 ⟨Nat.le_of_ble_eq_true rfl, Nat.le_of_ble_eq_true rfl⟩ ⟨hnc, hns⟩ rfl hl.1 rfl (Nat.le_of_ble_eq_true rfl) dL_law_878 (fun H locs hW => ?_)
                                                      refine lv_aload_n hx hb dL_law_881 rfl (lv_at hl 2 rfl) ?_
                                                      obtain ⟨r269, M270, e271, hf⟩ := z_bpe hf
                                                      refine z_cV (As := []) (rest := [.int r266]) B hW (f_X11_park l e271 h2) sc_X11_park sv_L_112 h2 ⟨Nat.le_of_ble_eq_true rfl, Nat.le_of_ble_eq_true rfl⟩ ⟨hnc, hns⟩ rfl hl.1 rfl (Nat.le_of_ble_eq_true rfl) dL_law_882 (fun H locs hW => ?_)
                                                      refine lv_icmp_eq (tgt := 1254) hx hb dL_law_885 (by decide) (fun c272 => ?_) (fun c272 => ?_)
                                                      · have hf := z_it c272 hf
                                                        refine lv_iinc (v := l3 + (6 : Int32)) (lv' := [(3, .int (l3 + (6 : Int32))), (0, .ref b), (1, .ref l1), (2, .ref l2)]) hx hb dL_law_1254 hl (k := 3) rfl rfl (by decide) rfl (fun ls hl => ?_)
                                                        refine lv_goto (tgt := 18) hx hb dL_law_1257 (by decide) ?_
                                                        exact ih M270 l1 l2 (l3 + (6 : Int32)) hf h1 h2 _ _ _ hW (lv_sub hl [1, 2, 3, 0] rfl)
                                                      · have hf := z_if c272 hf
                                                        refine lv_iconst (v := 0) hx hb dL_law_888 (by decide) ?_
                                                        exact absurd (Option.some.inj hf) (by decide)
                                                    · have hf := z_if c265 hf
                                                      by_cases c273 : ((xs l3.toNatClampNeg) &&& (63 : Int32)) = (24 : Int32)
                                                      · have hf := z_it c273 hf
                                                        refine lv_tableIn (off := 857) (tgt := 890) hx hb dL_law_33 (by rw [c273]; decide) (by rw [c273]; decide) (by rw [c273]; decide) (by decide) ?_
                                                        refine lv_aload_n hx hb dL_law_890 rfl (lv_at hl 1 rfl) ?_
                                                        refine lv_aload_n hx hb dL_law_891 rfl (lv_at hl 0 rfl) ?_
                                                        refine lv_iload_n hx hb dL_law_892 rfl (lv_at hl 3 rfl) ?_
                                                        refine lv_iconst (v := 1) hx hb dL_law_893 (by decide) ?_
                                                        refine lv_iadd hx hb dL_law_894 ?_
                                                        obtain ⟨g274, hf⟩ := z_gd hf
                                                        refine va_sld hx hb hX hbl hbA hW.2.2 g274 dL_law_895 ?_
                                                        refine lv_aload_n hx hb dL_law_896 rfl (lv_at hl 0 rfl) ?_
                                                        refine lv_iload_n hx hb dL_law_897 rfl (lv_at hl 3 rfl) ?_
                                                        refine lv_iconst (v := 2) hx hb dL_law_898 (by decide) ?_
                                                        refine lv_iadd hx hb dL_law_899 ?_
                                                        obtain ⟨g275, hf⟩ := z_gd hf
                                                        refine va_sld hx hb hX hbl hbA hW.2.2 g275 dL_law_900 ?_
                                                        refine lv_aload_n hx hb dL_law_901 rfl (lv_at hl 0 rfl) ?_
                                                        refine lv_iload_n hx hb dL_law_902 rfl (lv_at hl 3 rfl) ?_
                                                        refine lv_iconst (v := 3) hx hb dL_law_903 (by decide) ?_
                                                        refine lv_iadd hx hb dL_law_904 ?_
                                                        obtain ⟨g276, hf⟩ := z_gd hf
                                                        refine va_sld hx hb hX hbl hbA hW.2.2 g276 dL_law_905 ?_
                                                        obtain ⟨r277, M278, e279, hf⟩ := z_bpe hf
                                                        refine z_cV (As := [.int (xs ((l3 + (1 : Int32)).toNatClampNeg)), .int (xs ((l3 + (2 : Int32)).toNatClampNeg)), .int (xs ((l3 + (3 : Int32)).toNatClampNeg))]) (rest := []) B hW (f_X10_sheet l e279 h1) sc_X10_sheet sv_L_113 h1 ⟨Nat.le_of_ble_eq_true rfl, Nat.le_of_ble_eq_true rfl⟩ ⟨hnc, hns⟩ rfl hl.1 rfl (Nat.le_of_ble_eq_true rfl) dL_law_906 (fun H locs hW => ?_)
                                                        refine lv_aload_n hx hb dL_law_909 rfl (lv_at hl 2 rfl) ?_
                                                        refine lv_aload_n hx hb dL_law_910 rfl (lv_at hl 0 rfl) ?_
                                                        refine lv_iload_n hx hb dL_law_911 rfl (lv_at hl 3 rfl) ?_
                                                        refine lv_iconst (v := 1) hx hb dL_law_912 (by decide) ?_
                                                        refine lv_iadd hx hb dL_law_913 ?_
                                                        obtain ⟨g280, hf⟩ := z_gd hf
                                                        refine va_sld hx hb hX hbl hbA hW.2.2 g280 dL_law_914 ?_
                                                        refine lv_aload_n hx hb dL_law_915 rfl (lv_at hl 0 rfl) ?_
                                                        refine lv_iload_n hx hb dL_law_916 rfl (lv_at hl 3 rfl) ?_
                                                        refine lv_iconst (v := 2) hx hb dL_law_917 (by decide) ?_
                                                        refine lv_iadd hx hb dL_law_918 ?_
                                                        obtain ⟨g281, hf⟩ := z_gd hf
                                                        refine va_sld hx hb hX hbl hbA hW.2.2 g281 dL_law_919 ?_
                                                        refine lv_aload_n hx hb dL_law_920 rfl (lv_at hl 0 rfl) ?_
                                                        refine lv_iload_n hx hb dL_law_921 rfl (lv_at hl 3 rfl) ?_
                                                        refine lv_iconst (v := 3) hx hb dL_law_922 (by decide) ?_
                                                        refine lv_iadd hx hb dL_law_923 ?_
                                                        obtain ⟨g282, hf⟩ := z_gd hf
                                                        refine va_sld hx hb hX hbl hbA hW.2.2 g282 dL_law_924 ?_
                                                        obtain ⟨r283, M284, e285, hf⟩ := z_bpe hf
                                                        refine z_cV (As := [.int (xs ((l3 + (1 : Int32)).toNatClampNeg)), .int (xs ((l3 + (2 : Int32)).toNatClampNeg)), .int (xs ((l3 + (3 : Int32)).toNatClampNeg))]) (rest := [.int r277]) B hW (f_X11_sheet l e285 h2) sc_X11_sheet sv_L_116 h2 ⟨Nat.le_of_ble_eq_true rfl, Nat.le_of_ble_eq_true rfl⟩ ⟨hnc, hns⟩ rfl hl.1 rfl (Nat.le_of_ble_eq_true rfl) dL_law_925 (fun H locs hW => ?_)
                                                        refine lv_icmp_eq (tgt := 1254) hx hb dL_law_928 (by decide) (fun c286 => ?_) (fun c286 => ?_)
                                                        · have hf := z_it c286 hf
                                                          refine lv_iinc (v := l3 + (6 : Int32)) (lv' := [(3, .int (l3 + (6 : Int32))), (0, .ref b), (1, .ref l1), (2, .ref l2)]) hx hb dL_law_1254 hl (k := 3) rfl rfl (by decide) rfl (fun ls hl => ?_)
                                                          refine lv_goto (tgt := 18) hx hb dL_law_1257 (by decide) ?_
                                                          exact ih M284 l1 l2 (l3 + (6 : Int32)) hf h1 h2 _ _ _ hW (lv_sub hl [1, 2, 3, 0] rfl)
                                                        · have hf := z_if c286 hf
                                                          refine lv_iconst (v := 0) hx hb dL_law_931 (by decide) ?_
                                                          exact absurd (Option.some.inj hf) (by decide)
                                                      · have hf := z_if c273 hf
                                                        by_cases c287 : ((xs l3.toNatClampNeg) &&& (63 : Int32)) = (25 : Int32)
                                                        · have hf := z_it c287 hf
                                                          refine lv_tableIn (off := 900) (tgt := 933) hx hb dL_law_33 (by rw [c287]; decide) (by rw [c287]; decide) (by rw [c287]; decide) (by decide) ?_
                                                          refine lv_aload_n hx hb dL_law_933 rfl (lv_at hl 1 rfl) ?_
                                                          refine lv_aload_n hx hb dL_law_934 rfl (lv_at hl 0 rfl) ?_
                                                          refine lv_iload_n hx hb dL_law_935 rfl (lv_at hl 3 rfl) ?_
                                                          refine lv_iconst (v := 1) hx hb dL_law_936 (by decide) ?_
                                                          refine lv_iadd hx hb dL_law_937 ?_
                                                          obtain ⟨g288, hf⟩ := z_gd hf
                                                          refine va_sld hx hb hX hbl hbA hW.2.2 g288 dL_law_938 ?_
                                                          refine lv_aload_n hx hb dL_law_939 rfl (lv_at hl 0 rfl) ?_
                                                          refine lv_iload_n hx hb dL_law_940 rfl (lv_at hl 3 rfl) ?_
                                                          refine lv_iconst (v := 2) hx hb dL_law_941 (by decide) ?_
                                                          refine lv_iadd hx hb dL_law_942 ?_
                                                          obtain ⟨g289, hf⟩ := z_gd hf
                                                          refine va_sld hx hb hX hbl hbA hW.2.2 g289 dL_law_943 ?_
                                                          refine lv_aload_n hx hb dL_law_944 rfl (lv_at hl 0 rfl) ?_
                                                          refine lv_iload_n hx hb dL_law_945 rfl (lv_at hl 3 rfl) ?_
                                                          refine lv_iconst (v := 3) hx hb dL_law_946 (by decide) ?_
                                                          refine lv_iadd hx hb dL_law_947 ?_
                                                          obtain ⟨g290, hf⟩ := z_gd hf
                                                          refine va_sld hx hb hX hbl hbA hW.2.2 g290 dL_law_948 ?_
                                                          refine lv_i2l hx hb dL_law_949 rfl ?_
                                                          refine lv_bipush (v := 32) hx hb dL_law_950 (by decide) ?_
                                                          refine lv_lshl hx hb dL_law_952 rfl ?_
                                                          refine lv_aload_n hx hb dL_law_953 rfl (lv_at hl 0 rfl) ?_
                                                          refine lv_iload_n hx hb dL_law_954 rfl (lv_at hl 3 rfl) ?_
                                                          refine lv_iconst (v := 4) hx hb dL_law_955 (by decide) ?_
                                                          refine lv_iadd hx hb dL_law_956 ?_
                                                          obtain ⟨g291, hf⟩ := z_gd hf
                                                          refine va_sld hx hb hX hbl hbA hW.2.2 g291 dL_law_957 ?_
                                                          refine lv_i2l hx hb dL_law_958 rfl ?_
                                                          refine lv_ldc2 hx hb ho (hw _ q1260) dL_law_959 ?_
                                                          refine lv_land hx hb dL_law_962 ?_
                                                          refine lv_lor hx hb dL_law_963 ?_
                                                          obtain ⟨r292, M293, e294, hf⟩ := z_bpe hf
                                                          refine z_cV (As := [.int (xs ((l3 + (1 : Int32)).toNatClampNeg)), .int (xs ((l3 + (2 : Int32)).toNatClampNeg)), .long ((((xs ((l3 + (3 : Int32)).toNatClampNeg)).toInt64) <<< ((32 : Int32).toInt64 &&& 63)) ||| (((xs ((l3 + (4 : Int32)).toNatClampNeg)).toInt64) &&& (4294967295 : Int64)))]) (rest := []) B hW (f_X10_write l e294 h1) sc_X10_write sv_L_119 h1 ⟨Nat.le_of_ble_eq_true rfl, Nat.le_of_ble_eq_true rfl⟩ ⟨hnc, hns⟩ rfl hl.1 rfl (Nat.le_of_ble_eq_true rfl) dL_law_964 (fun H locs hW => ?_)
                                                          refine lv_aload_n hx hb dL_law_967 rfl (lv_at hl 2 rfl) ?_
                                                          refine lv_aload_n hx hb dL_law_968 rfl (lv_at hl 0 rfl) ?_
                                                          refine lv_iload_n hx hb dL_law_969 rfl (lv_at hl 3 rfl) ?_
                                                          refine lv_iconst (v := 1) hx hb dL_law_970 (by decide) ?_
                                                          refine lv_iadd hx hb dL_law_971 ?_
                                                          obtain ⟨g295, hf⟩ := z_gd hf
                                                          refine va_sld hx hb hX hbl hbA hW.2.2 g295 dL_law_972 ?_
                                                          refine lv_aload_n hx hb dL_law_973 rfl (lv_at hl 0 rfl) ?_
                                                          refine lv_iload_n hx hb dL_law_974 rfl (lv_at hl 3 rfl) ?_
                                                          refine lv_iconst (v := 2) hx hb dL_law_975 (by decide) ?_
                                                          refine lv_iadd hx hb dL_law_976 ?_
                                                          obtain ⟨g296, hf⟩ := z_gd hf
                                                          refine va_sld hx hb hX hbl hbA hW.2.2 g296 dL_law_977 ?_
                                                          refine lv_aload_n hx hb dL_law_978 rfl (lv_at hl 0 rfl) ?_
                                                          refine lv_iload_n hx hb dL_law_979 rfl (lv_at hl 3 rfl) ?_
                                                          refine lv_iconst (v := 3) hx hb dL_law_980 (by decide) ?_
                                                          refine lv_iadd hx hb dL_law_981 ?_
                                                          obtain ⟨g297, hf⟩ := z_gd hf
                                                          refine va_sld hx hb hX hbl hbA hW.2.2 g297 dL_law_982 ?_
                                                          refine lv_i2l hx hb dL_law_983 rfl ?_
                                                          refine lv_bipush (v := 32) hx hb dL_law_984 (by decide) ?_
                                                          refine lv_lshl hx hb dL_law_986 rfl ?_
                                                          refine lv_aload_n hx hb dL_law_987 rfl (lv_at hl 0 rfl) ?_
                                                          refine lv_iload_n hx hb dL_law_988 rfl (lv_at hl 3 rfl) ?_
                                                          refine lv_iconst (v := 4) hx hb dL_law_989 (by decide) ?_
                                                          refine lv_iadd hx hb dL_law_990 ?_
                                                          obtain ⟨g298, hf⟩ := z_gd hf
                                                          refine va_sld hx hb hX hbl hbA hW.2.2 g298 dL_law_991 ?_
                                                          refine lv_i2l hx hb dL_law_992 rfl ?_
                                                          refine lv_ldc2 hx hb ho (hw _ q1260) dL_law_993 ?_
                                                          refine lv_land hx hb dL_law_996 ?_
                                                          refine lv_lor hx hb dL_law_997 ?_
                                                          obtain ⟨r299, M300, e301, hf⟩ := z_bpe hf
                                                          refine z_cV (As := [.int (xs ((l3 + (1 : Int32)).toNatClampNeg)), .int (xs ((l3 + (2 : Int32)).toNatClampNeg)), .long ((((xs ((l3 + (3 : Int32)).toNatClampNeg)).toInt64) <<< ((32 : Int32).toInt64 &&& 63)) ||| (((xs ((l3 + (4 : Int32)).toNatClampNeg)).toInt64) &&& (4294967295 : Int64)))]) (rest := [.long r292]) B hW (f_X11_write l e301 h2) sc_X11_write sv_L_123 h2 ⟨Nat.le_of_ble_eq_true rfl, Nat.le_of_ble_eq_true rfl⟩ ⟨hnc, hns⟩ rfl hl.1 rfl (Nat.le_of_ble_eq_true rfl) dL_law_998 (fun H locs hW => ?_)
                                                          refine W.lcmp hx hb dL_law_1001 ?_
                                                          refine lv_if_eq (tgt := 1254) hx hb dL_law_1002 (by decide) (fun c302 => ?_) (fun c302 => ?_)
                                                          · have hf := z_it c302 hf
                                                            refine lv_iinc (v := l3 + (6 : Int32)) (lv' := [(3, .int (l3 + (6 : Int32))), (0, .ref b), (1, .ref l1), (2, .ref l2)]) hx hb dL_law_1254 hl (k := 3) rfl rfl (by decide) rfl (fun ls hl => ?_)
                                                            refine lv_goto (tgt := 18) hx hb dL_law_1257 (by decide) ?_
                                                            exact ih M300 l1 l2 (l3 + (6 : Int32)) hf h1 h2 _ _ _ hW (lv_sub hl [1, 2, 3, 0] rfl)
                                                          · have hf := z_if c302 hf
                                                            refine lv_iconst (v := 0) hx hb dL_law_1005 (by decide) ?_
                                                            exact absurd (Option.some.inj hf) (by decide)
                                                        · have hf := z_if c287 hf
                                                          by_cases c303 : ((xs l3.toNatClampNeg) &&& (63 : Int32)) = (26 : Int32)
                                                          · have hf := z_it c303 hf
                                                            refine lv_tableIn (off := 974) (tgt := 1007) hx hb dL_law_33 (by rw [c303]; decide) (by rw [c303]; decide) (by rw [c303]; decide) (by decide) ?_
                                                            refine lv_aload_n hx hb dL_law_1007 rfl (lv_at hl 1 rfl) ?_
                                                            refine lv_aload_n hx hb dL_law_1008 rfl (lv_at hl 0 rfl) ?_
                                                            refine lv_iload_n hx hb dL_law_1009 rfl (lv_at hl 3 rfl) ?_
                                                            refine lv_iconst (v := 1) hx hb dL_law_1010 (by decide) ?_
                                                            refine lv_iadd hx hb dL_law_1011 ?_
                                                            obtain ⟨g304, hf⟩ := z_gd hf
                                                            refine va_sld hx hb hX hbl hbA hW.2.2 g304 dL_law_1012 ?_
                                                            refine lv_aload_n hx hb dL_law_1013 rfl (lv_at hl 0 rfl) ?_
                                                            refine lv_iload_n hx hb dL_law_1014 rfl (lv_at hl 3 rfl) ?_
                                                            refine lv_iconst (v := 2) hx hb dL_law_1015 (by decide) ?_
                                                            refine lv_iadd hx hb dL_law_1016 ?_
                                                            obtain ⟨g305, hf⟩ := z_gd hf
                                                            refine va_sld hx hb hX hbl hbA hW.2.2 g305 dL_law_1017 ?_
                                                            refine lv_aload_n hx hb dL_law_1018 rfl (lv_at hl 0 rfl) ?_
                                                            refine lv_iload_n hx hb dL_law_1019 rfl (lv_at hl 3 rfl) ?_
                                                            refine lv_iconst (v := 3) hx hb dL_law_1020 (by decide) ?_
                                                            refine lv_iadd hx hb dL_law_1021 ?_
                                                            obtain ⟨g306, hf⟩ := z_gd hf
                                                            refine va_sld hx hb hX hbl hbA hW.2.2 g306 dL_law_1022 ?_
                                                            refine lv_aload_n hx hb dL_law_1023 rfl (lv_at hl 0 rfl) ?_
                                                            refine lv_iload_n hx hb dL_law_1024 rfl (lv_at hl 3 rfl) ?_
                                                            refine lv_iconst (v := 4) hx hb dL_law_1025 (by decide) ?_
                                                            refine lv_iadd hx hb dL_law_1026 ?_
                                                            obtain ⟨g307, hf⟩ := z_gd hf
                                                            refine va_sld hx hb hX hbl hbA hW.2.2 g307 dL_law_1027 ?_
                                                            refine lv_aload_n hx hb dL_law_1028 rfl (lv_at hl 0 rfl) ?_
                                                            refine lv_iload_n hx hb dL_law_1029 rfl (lv_at hl 3 rfl) ?_
                                                            refine lv_iconst (v := 5) hx hb dL_law_1030 (by decide) ?_
                                                            refine lv_iadd hx hb dL_law_1031 ?_
                                                            obtain ⟨g308, hf⟩ := z_gd hf
                                                            refine va_sld hx hb hX hbl hbA hW.2.2 g308 dL_law_1032 ?_
                                                            obtain ⟨r309, M310, e311, hf⟩ := z_bpe hf
                                                            refine z_cV (As := [.int (xs ((l3 + (1 : Int32)).toNatClampNeg)), .int (xs ((l3 + (2 : Int32)).toNatClampNeg)), .int (xs ((l3 + (3 : Int32)).toNatClampNeg)), .int (xs ((l3 + (4 : Int32)).toNatClampNeg)), .int (xs ((l3 + (5 : Int32)).toNatClampNeg))]) (rest := []) B hW (f_X10_copy l e311 h1) sc_X10_copy sv_L_124 h1 ⟨Nat.le_of_ble_eq_true rfl, Nat.le_of_ble_eq_true rfl⟩ ⟨hnc, hns⟩ rfl hl.1 rfl (Nat.le_of_ble_eq_true rfl) dL_law_1033 (fun H locs hW => ?_)
                                                            refine lv_aload_n hx hb dL_law_1036 rfl (lv_at hl 2 rfl) ?_
                                                            refine lv_aload_n hx hb dL_law_1037 rfl (lv_at hl 0 rfl) ?_
                                                            refine lv_iload_n hx hb dL_law_1038 rfl (lv_at hl 3 rfl) ?_
                                                            refine lv_iconst (v := 1) hx hb dL_law_1039 (by decide) ?_
                                                            refine lv_iadd hx hb dL_law_1040 ?_
                                                            obtain ⟨g312, hf⟩ := z_gd hf
                                                            refine va_sld hx hb hX hbl hbA hW.2.2 g312 dL_law_1041 ?_
                                                            refine lv_aload_n hx hb dL_law_1042 rfl (lv_at hl 0 rfl) ?_
                                                            refine lv_iload_n hx hb dL_law_1043 rfl (lv_at hl 3 rfl) ?_
                                                            refine lv_iconst (v := 2) hx hb dL_law_1044 (by decide) ?_
                                                            refine lv_iadd hx hb dL_law_1045 ?_
                                                            obtain ⟨g313, hf⟩ := z_gd hf
                                                            refine va_sld hx hb hX hbl hbA hW.2.2 g313 dL_law_1046 ?_
                                                            refine lv_aload_n hx hb dL_law_1047 rfl (lv_at hl 0 rfl) ?_
                                                            refine lv_iload_n hx hb dL_law_1048 rfl (lv_at hl 3 rfl) ?_
                                                            refine lv_iconst (v := 3) hx hb dL_law_1049 (by decide) ?_
                                                            refine lv_iadd hx hb dL_law_1050 ?_
                                                            obtain ⟨g314, hf⟩ := z_gd hf
                                                            refine va_sld hx hb hX hbl hbA hW.2.2 g314 dL_law_1051 ?_
                                                            refine lv_aload_n hx hb dL_law_1052 rfl (lv_at hl 0 rfl) ?_
                                                            refine lv_iload_n hx hb dL_law_1053 rfl (lv_at hl 3 rfl) ?_
                                                            refine lv_iconst (v := 4) hx hb dL_law_1054 (by decide) ?_
                                                            refine lv_iadd hx hb dL_law_1055 ?_
                                                            obtain ⟨g315, hf⟩ := z_gd hf
                                                            refine va_sld hx hb hX hbl hbA hW.2.2 g315 dL_law_1056 ?_
                                                            refine lv_aload_n hx hb dL_law_1057 rfl (lv_at hl 0 rfl) ?_
                                                            refine lv_iload_n hx hb dL_law_1058 rfl (lv_at hl 3 rfl) ?_
                                                            refine lv_iconst (v := 5) hx hb dL_law_1059 (by decide) ?_
                                                            refine lv_iadd hx hb dL_law_1060 ?_
                                                            obtain ⟨g316, hf⟩ := z_gd hf
                                                            refine va_sld hx hb hX hbl hbA hW.2.2 g316 dL_law_1061 ?_
                                                            obtain ⟨r317, M318, e319, hf⟩ := z_bpe hf
                                                            refine z_cV (As := [.int (xs ((l3 + (1 : Int32)).toNatClampNeg)), .int (xs ((l3 + (2 : Int32)).toNatClampNeg)), .int (xs ((l3 + (3 : Int32)).toNatClampNeg)), .int (xs ((l3 + (4 : Int32)).toNatClampNeg)), .int (xs ((l3 + (5 : Int32)).toNatClampNeg))]) (rest := [.int r309]) B hW (f_X11_copy l e319 h2) sc_X11_copy sv_L_128 h2 ⟨Nat.le_of_ble_eq_true rfl, Nat.le_of_ble_eq_true rfl⟩ ⟨hnc, hns⟩ rfl hl.1 rfl (Nat.le_of_ble_eq_true rfl) dL_law_1062 (fun H locs hW => ?_)
                                                            refine lv_icmp_eq (tgt := 1254) hx hb dL_law_1065 (by decide) (fun c320 => ?_) (fun c320 => ?_)
                                                            · have hf := z_it c320 hf
                                                              refine lv_iinc (v := l3 + (6 : Int32)) (lv' := [(3, .int (l3 + (6 : Int32))), (0, .ref b), (1, .ref l1), (2, .ref l2)]) hx hb dL_law_1254 hl (k := 3) rfl rfl (by decide) rfl (fun ls hl => ?_)
                                                              refine lv_goto (tgt := 18) hx hb dL_law_1257 (by decide) ?_
                                                              exact ih M318 l1 l2 (l3 + (6 : Int32)) hf h1 h2 _ _ _ hW (lv_sub hl [1, 2, 3, 0] rfl)
                                                            · have hf := z_if c320 hf
                                                              refine lv_iconst (v := 0) hx hb dL_law_1068 (by decide) ?_
                                                              exact absurd (Option.some.inj hf) (by decide)
                                                          · have hf := z_if c303 hf
                                                            by_cases c321 : ((xs l3.toNatClampNeg) &&& (63 : Int32)) = (27 : Int32)
                                                            · have hf := z_it c321 hf
                                                              refine lv_tableIn (off := 1037) (tgt := 1070) hx hb dL_law_33 (by rw [c321]; decide) (by rw [c321]; decide) (by rw [c321]; decide) (by decide) ?_
                                                              refine lv_aload_n hx hb dL_law_1070 rfl (lv_at hl 1 rfl) ?_
                                                              refine lv_aload_n hx hb dL_law_1071 rfl (lv_at hl 0 rfl) ?_
                                                              refine lv_iload_n hx hb dL_law_1072 rfl (lv_at hl 3 rfl) ?_
                                                              refine lv_iconst (v := 1) hx hb dL_law_1073 (by decide) ?_
                                                              refine lv_iadd hx hb dL_law_1074 ?_
                                                              obtain ⟨g322, hf⟩ := z_gd hf
                                                              refine va_sld hx hb hX hbl hbA hW.2.2 g322 dL_law_1075 ?_
                                                              obtain ⟨r323, M324, e325, hf⟩ := z_bpe hf
                                                              refine z_cV (As := [.int (xs ((l3 + (1 : Int32)).toNatClampNeg))]) (rest := []) B hW (f_X10_lays l e325 h1) sc_X10_lays sv_L_129 h1 ⟨Nat.le_of_ble_eq_true rfl, Nat.le_of_ble_eq_true rfl⟩ ⟨hnc, hns⟩ rfl hl.1 rfl (Nat.le_of_ble_eq_true rfl) dL_law_1076 (fun H locs hW => ?_)
                                                              refine lv_aload_n hx hb dL_law_1079 rfl (lv_at hl 2 rfl) ?_
                                                              refine lv_aload_n hx hb dL_law_1080 rfl (lv_at hl 0 rfl) ?_
                                                              refine lv_iload_n hx hb dL_law_1081 rfl (lv_at hl 3 rfl) ?_
                                                              refine lv_iconst (v := 1) hx hb dL_law_1082 (by decide) ?_
                                                              refine lv_iadd hx hb dL_law_1083 ?_
                                                              obtain ⟨g326, hf⟩ := z_gd hf
                                                              refine va_sld hx hb hX hbl hbA hW.2.2 g326 dL_law_1084 ?_
                                                              obtain ⟨r327, M328, e329, hf⟩ := z_bpe hf
                                                              refine z_cV (As := [.int (xs ((l3 + (1 : Int32)).toNatClampNeg))]) (rest := [.int r323]) B hW (f_X11_lays l e329 h2) sc_X11_lays sv_L_132 h2 ⟨Nat.le_of_ble_eq_true rfl, Nat.le_of_ble_eq_true rfl⟩ ⟨hnc, hns⟩ rfl hl.1 rfl (Nat.le_of_ble_eq_true rfl) dL_law_1085 (fun H locs hW => ?_)
                                                              refine lv_icmp_eq (tgt := 1254) hx hb dL_law_1088 (by decide) (fun c330 => ?_) (fun c330 => ?_)
                                                              · have hf := z_it c330 hf
                                                                refine lv_iinc (v := l3 + (6 : Int32)) (lv' := [(3, .int (l3 + (6 : Int32))), (0, .ref b), (1, .ref l1), (2, .ref l2)]) hx hb dL_law_1254 hl (k := 3) rfl rfl (by decide) rfl (fun ls hl => ?_)
                                                                refine lv_goto (tgt := 18) hx hb dL_law_1257 (by decide) ?_
                                                                exact ih M328 l1 l2 (l3 + (6 : Int32)) hf h1 h2 _ _ _ hW (lv_sub hl [1, 2, 3, 0] rfl)
                                                              · have hf := z_if c330 hf
                                                                refine lv_iconst (v := 0) hx hb dL_law_1091 (by decide) ?_
                                                                exact absurd (Option.some.inj hf) (by decide)
                                                            · have hf := z_if c321 hf
                                                              by_cases c331 : ((xs l3.toNatClampNeg) &&& (63 : Int32)) = (28 : Int32)
                                                              · have hf := z_it c331 hf
                                                                refine lv_tableIn (off := 1060) (tgt := 1093) hx hb dL_law_33 (by rw [c331]; decide) (by rw [c331]; decide) (by rw [c331]; decide) (by decide) ?_
                                                                refine lv_aload_n hx hb dL_law_1093 rfl (lv_at hl 1 rfl) ?_
                                                                refine lv_aload_n hx hb dL_law_1094 rfl (lv_at hl 0 rfl) ?_
                                                                refine lv_iload_n hx hb dL_law_1095 rfl (lv_at hl 3 rfl) ?_
                                                                refine lv_iconst (v := 1) hx hb dL_law_1096 (by decide) ?_
                                                                refine lv_iadd hx hb dL_law_1097 ?_
                                                                obtain ⟨g332, hf⟩ := z_gd hf
                                                                refine va_sld hx hb hX hbl hbA hW.2.2 g332 dL_law_1098 ?_
                                                                refine lv_aload_n hx hb dL_law_1099 rfl (lv_at hl 0 rfl) ?_
                                                                refine lv_iload_n hx hb dL_law_1100 rfl (lv_at hl 3 rfl) ?_
                                                                refine lv_iconst (v := 2) hx hb dL_law_1101 (by decide) ?_
                                                                refine lv_iadd hx hb dL_law_1102 ?_
                                                                obtain ⟨g333, hf⟩ := z_gd hf
                                                                refine va_sld hx hb hX hbl hbA hW.2.2 g333 dL_law_1103 ?_
                                                                obtain ⟨r334, M335, e336, hf⟩ := z_bpe hf
                                                                refine z_cV (As := [.int (xs ((l3 + (1 : Int32)).toNatClampNeg)), .int (xs ((l3 + (2 : Int32)).toNatClampNeg))]) (rest := []) B hW (f_X10_book l e336 h1) sc_X10_book sv_L_133 h1 ⟨Nat.le_of_ble_eq_true rfl, Nat.le_of_ble_eq_true rfl⟩ ⟨hnc, hns⟩ rfl hl.1 rfl (Nat.le_of_ble_eq_true rfl) dL_law_1104 (fun H locs hW => ?_)
                                                                refine lv_aload_n hx hb dL_law_1107 rfl (lv_at hl 2 rfl) ?_
                                                                refine lv_aload_n hx hb dL_law_1108 rfl (lv_at hl 0 rfl) ?_
                                                                refine lv_iload_n hx hb dL_law_1109 rfl (lv_at hl 3 rfl) ?_
                                                                refine lv_iconst (v := 1) hx hb dL_law_1110 (by decide) ?_
                                                                refine lv_iadd hx hb dL_law_1111 ?_
                                                                obtain ⟨g337, hf⟩ := z_gd hf
                                                                refine va_sld hx hb hX hbl hbA hW.2.2 g337 dL_law_1112 ?_
                                                                refine lv_aload_n hx hb dL_law_1113 rfl (lv_at hl 0 rfl) ?_
                                                                refine lv_iload_n hx hb dL_law_1114 rfl (lv_at hl 3 rfl) ?_
                                                                refine lv_iconst (v := 2) hx hb dL_law_1115 (by decide) ?_
                                                                refine lv_iadd hx hb dL_law_1116 ?_
                                                                obtain ⟨g338, hf⟩ := z_gd hf
                                                                refine va_sld hx hb hX hbl hbA hW.2.2 g338 dL_law_1117 ?_
                                                                obtain ⟨r339, M340, e341, hf⟩ := z_bpe hf
                                                                refine z_cV (As := [.int (xs ((l3 + (1 : Int32)).toNatClampNeg)), .int (xs ((l3 + (2 : Int32)).toNatClampNeg))]) (rest := [.int r334]) B hW (f_X11_book l e341 h2) sc_X11_book sv_L_136 h2 ⟨Nat.le_of_ble_eq_true rfl, Nat.le_of_ble_eq_true rfl⟩ ⟨hnc, hns⟩ rfl hl.1 rfl (Nat.le_of_ble_eq_true rfl) dL_law_1118 (fun H locs hW => ?_)
                                                                refine lv_icmp_eq (tgt := 1254) hx hb dL_law_1121 (by decide) (fun c342 => ?_) (fun c342 => ?_)
                                                                · have hf := z_it c342 hf
                                                                  refine lv_iinc (v := l3 + (6 : Int32)) (lv' := [(3, .int (l3 + (6 : Int32))), (0, .ref b), (1, .ref l1), (2, .ref l2)]) hx hb dL_law_1254 hl (k := 3) rfl rfl (by decide) rfl (fun ls hl => ?_)
                                                                  refine lv_goto (tgt := 18) hx hb dL_law_1257 (by decide) ?_
                                                                  exact ih M340 l1 l2 (l3 + (6 : Int32)) hf h1 h2 _ _ _ hW (lv_sub hl [1, 2, 3, 0] rfl)
                                                                · have hf := z_if c342 hf
                                                                  refine lv_iconst (v := 0) hx hb dL_law_1124 (by decide) ?_
                                                                  exact absurd (Option.some.inj hf) (by decide)
                                                              · have hf := z_if c331 hf
                                                                by_cases c343 : ((xs l3.toNatClampNeg) &&& (63 : Int32)) = (29 : Int32)
                                                                · have hf := z_it c343 hf
                                                                  refine lv_tableIn (off := 1093) (tgt := 1126) hx hb dL_law_33 (by rw [c343]; decide) (by rw [c343]; decide) (by rw [c343]; decide) (by decide) ?_
                                                                  refine lv_aload_n hx hb dL_law_1126 rfl (lv_at hl 1 rfl) ?_
                                                                  refine lv_aload_n hx hb dL_law_1127 rfl (lv_at hl 0 rfl) ?_
                                                                  refine lv_iload_n hx hb dL_law_1128 rfl (lv_at hl 3 rfl) ?_
                                                                  refine lv_iconst (v := 1) hx hb dL_law_1129 (by decide) ?_
                                                                  refine lv_iadd hx hb dL_law_1130 ?_
                                                                  obtain ⟨g344, hf⟩ := z_gd hf
                                                                  refine va_sld hx hb hX hbl hbA hW.2.2 g344 dL_law_1131 ?_
                                                                  refine lv_aload_n hx hb dL_law_1132 rfl (lv_at hl 0 rfl) ?_
                                                                  refine lv_iload_n hx hb dL_law_1133 rfl (lv_at hl 3 rfl) ?_
                                                                  refine lv_iconst (v := 2) hx hb dL_law_1134 (by decide) ?_
                                                                  refine lv_iadd hx hb dL_law_1135 ?_
                                                                  obtain ⟨g345, hf⟩ := z_gd hf
                                                                  refine va_sld hx hb hX hbl hbA hW.2.2 g345 dL_law_1136 ?_
                                                                  refine lv_aload_n hx hb dL_law_1137 rfl (lv_at hl 0 rfl) ?_
                                                                  refine lv_iload_n hx hb dL_law_1138 rfl (lv_at hl 3 rfl) ?_
                                                                  refine lv_iconst (v := 3) hx hb dL_law_1139 (by decide) ?_
                                                                  refine lv_iadd hx hb dL_law_1140 ?_
                                                                  obtain ⟨g346, hf⟩ := z_gd hf
                                                                  refine va_sld hx hb hX hbl hbA hW.2.2 g346 dL_law_1141 ?_
                                                                  obtain ⟨r347, M348, e349, hf⟩ := z_bpe hf
                                                                  refine z_cV (As := [.int (xs ((l3 + (1 : Int32)).toNatClampNeg)), .int (xs ((l3 + (2 : Int32)).toNatClampNeg)), .int (xs ((l3 + (3 : Int32)).toNatClampNeg))]) (rest := []) B hW (f_X10_read l e349 h1) sc_X10_read sv_L_137 h1 ⟨Nat.le_of_ble_eq_true rfl, Nat.le_of_ble_eq_true rfl⟩ ⟨hnc, hns⟩ rfl hl.1 rfl (Nat.le_of_ble_eq_true rfl) dL_law_1142 (fun H locs hW => ?_)
                                                                  refine lv_aload_n hx hb dL_law_1145 rfl (lv_at hl 2 rfl) ?_
                                                                  refine lv_aload_n hx hb dL_law_1146 rfl (lv_at hl 0 rfl) ?_
                                                                  refine lv_iload_n hx hb dL_law_1147 rfl (lv_at hl 3 rfl) ?_
                                                                  refine lv_iconst (v := 1) hx hb dL_law_1148 (by decide) ?_
                                                                  refine lv_iadd hx hb dL_law_1149 ?_
                                                                  obtain ⟨g350, hf⟩ := z_gd hf
                                                                  refine va_sld hx hb hX hbl hbA hW.2.2 g350 dL_law_1150 ?_
                                                                  refine lv_aload_n hx hb dL_law_1151 rfl (lv_at hl 0 rfl) ?_
                                                                  refine lv_iload_n hx hb dL_law_1152 rfl (lv_at hl 3 rfl) ?_
                                                                  refine lv_iconst (v := 2) hx hb dL_law_1153 (by decide) ?_
                                                                  refine lv_iadd hx hb dL_law_1154 ?_
                                                                  obtain ⟨g351, hf⟩ := z_gd hf
                                                                  refine va_sld hx hb hX hbl hbA hW.2.2 g351 dL_law_1155 ?_
                                                                  refine lv_aload_n hx hb dL_law_1156 rfl (lv_at hl 0 rfl) ?_
                                                                  refine lv_iload_n hx hb dL_law_1157 rfl (lv_at hl 3 rfl) ?_
                                                                  refine lv_iconst (v := 3) hx hb dL_law_1158 (by decide) ?_
                                                                  refine lv_iadd hx hb dL_law_1159 ?_
                                                                  obtain ⟨g352, hf⟩ := z_gd hf
                                                                  refine va_sld hx hb hX hbl hbA hW.2.2 g352 dL_law_1160 ?_
                                                                  obtain ⟨r353, M354, e355, hf⟩ := z_bpe hf
                                                                  refine z_cV (As := [.int (xs ((l3 + (1 : Int32)).toNatClampNeg)), .int (xs ((l3 + (2 : Int32)).toNatClampNeg)), .int (xs ((l3 + (3 : Int32)).toNatClampNeg))]) (rest := [.int r347]) B hW (f_X11_read l e355 h2) sc_X11_read sv_L_140 h2 ⟨Nat.le_of_ble_eq_true rfl, Nat.le_of_ble_eq_true rfl⟩ ⟨hnc, hns⟩ rfl hl.1 rfl (Nat.le_of_ble_eq_true rfl) dL_law_1161 (fun H locs hW => ?_)
                                                                  refine lv_icmp_eq (tgt := 1254) hx hb dL_law_1164 (by decide) (fun c356 => ?_) (fun c356 => ?_)
                                                                  · have hf := z_it c356 hf
                                                                    refine lv_iinc (v := l3 + (6 : Int32)) (lv' := [(3, .int (l3 + (6 : Int32))), (0, .ref b), (1, .ref l1), (2, .ref l2)]) hx hb dL_law_1254 hl (k := 3) rfl rfl (by decide) rfl (fun ls hl => ?_)
                                                                    refine lv_goto (tgt := 18) hx hb dL_law_1257 (by decide) ?_
                                                                    exact ih M354 l1 l2 (l3 + (6 : Int32)) hf h1 h2 _ _ _ hW (lv_sub hl [1, 2, 3, 0] rfl)
                                                                  · have hf := z_if c356 hf
                                                                    refine lv_iconst (v := 0) hx hb dL_law_1167 (by decide) ?_
                                                                    exact absurd (Option.some.inj hf) (by decide)
                                                                · have hf := z_if c343 hf
                                                                  by_cases c357 : ((xs l3.toNatClampNeg) &&& (63 : Int32)) = (30 : Int32)
                                                                  · have hf := z_it c357 hf
                                                                    refine lv_tableIn (off := 1136) (tgt := 1169) hx hb dL_law_33 (by rw [c357]; decide) (by rw [c357]; decide) (by rw [c357]; decide) (by decide) ?_
                                                                    refine lv_aload_n hx hb dL_law_1169 rfl (lv_at hl 1 rfl) ?_
                                                                    obtain ⟨r358, M359, e360, hf⟩ := z_bpe hf
                                                                    refine z_cV (As := []) (rest := []) B hW (f_X10_image l e360 h1) sc_X10_image sv_L_141 h1 ⟨Nat.le_of_ble_eq_true rfl, Nat.le_of_ble_eq_true rfl⟩ ⟨hnc, hns⟩ rfl hl.1 rfl (Nat.le_of_ble_eq_true rfl) dL_law_1170 (fun H locs hW => ?_)
                                                                    refine lv_aload_n hx hb dL_law_1173 rfl (lv_at hl 2 rfl) ?_
                                                                    obtain ⟨r361, M362, e363, hf⟩ := z_bpe hf
                                                                    refine z_cV (As := []) (rest := [.int r358]) B hW (f_X11_image l e363 h2) sc_X11_image sv_L_144 h2 ⟨Nat.le_of_ble_eq_true rfl, Nat.le_of_ble_eq_true rfl⟩ ⟨hnc, hns⟩ rfl hl.1 rfl (Nat.le_of_ble_eq_true rfl) dL_law_1174 (fun H locs hW => ?_)
                                                                    refine lv_icmp_eq (tgt := 1254) hx hb dL_law_1177 (by decide) (fun c364 => ?_) (fun c364 => ?_)
                                                                    · have hf := z_it c364 hf
                                                                      refine lv_iinc (v := l3 + (6 : Int32)) (lv' := [(3, .int (l3 + (6 : Int32))), (0, .ref b), (1, .ref l1), (2, .ref l2)]) hx hb dL_law_1254 hl (k := 3) rfl rfl (by decide) rfl (fun ls hl => ?_)
                                                                      refine lv_goto (tgt := 18) hx hb dL_law_1257 (by decide) ?_
                                                                      exact ih M362 l1 l2 (l3 + (6 : Int32)) hf h1 h2 _ _ _ hW (lv_sub hl [1, 2, 3, 0] rfl)
                                                                    · have hf := z_if c364 hf
                                                                      refine lv_iconst (v := 0) hx hb dL_law_1180 (by decide) ?_
                                                                      exact absurd (Option.some.inj hf) (by decide)
                                                                  · have hf := z_if c357 hf
                                                                    by_cases c365 : ((xs l3.toNatClampNeg) &&& (63 : Int32)) = (31 : Int32)
                                                                    · have hf := z_it c365 hf
                                                                      refine lv_tableIn (off := 1149) (tgt := 1182) hx hb dL_law_33 (by rw [c365]; decide) (by rw [c365]; decide) (by rw [c365]; decide) (by decide) ?_
                                                                      refine lv_aload_n hx hb dL_law_1182 rfl (lv_at hl 1 rfl) ?_
                                                                      obtain ⟨r366, M367, e368, hf⟩ := z_bpe hf
                                                                      refine z_cV (As := []) (rest := []) B hW (f_X10_undo l e368 h1) sc_X10_undo sv_L_145 h1 ⟨Nat.le_of_ble_eq_true rfl, Nat.le_of_ble_eq_true rfl⟩ ⟨hnc, hns⟩ rfl hl.1 rfl (Nat.le_of_ble_eq_true rfl) dL_law_1183 (fun H locs hW => ?_)
                                                                      refine lv_aload_n hx hb dL_law_1186 rfl (lv_at hl 2 rfl) ?_
                                                                      obtain ⟨r369, M370, e371, hf⟩ := z_bpe hf
                                                                      refine z_cV (As := []) (rest := [.int r366]) B hW (f_X11_undo l e371 h2) sc_X11_undo sv_L_148 h2 ⟨Nat.le_of_ble_eq_true rfl, Nat.le_of_ble_eq_true rfl⟩ ⟨hnc, hns⟩ rfl hl.1 rfl (Nat.le_of_ble_eq_true rfl) dL_law_1187 (fun H locs hW => ?_)
                                                                      refine lv_icmp_eq (tgt := 1254) hx hb dL_law_1190 (by decide) (fun c372 => ?_) (fun c372 => ?_)
                                                                      · have hf := z_it c372 hf
                                                                        refine lv_iinc (v := l3 + (6 : Int32)) (lv' := [(3, .int (l3 + (6 : Int32))), (0, .ref b), (1, .ref l1), (2, .ref l2)]) hx hb dL_law_1254 hl (k := 3) rfl rfl (by decide) rfl (fun ls hl => ?_)
                                                                        refine lv_goto (tgt := 18) hx hb dL_law_1257 (by decide) ?_
                                                                        exact ih M370 l1 l2 (l3 + (6 : Int32)) hf h1 h2 _ _ _ hW (lv_sub hl [1, 2, 3, 0] rfl)
                                                                      · have hf := z_if c372 hf
                                                                        refine lv_iconst (v := 0) hx hb dL_law_1193 (by decide) ?_
                                                                        exact absurd (Option.some.inj hf) (by decide)
                                                                    · have hf := z_if c365 hf
                                                                      by_cases c373 : ((xs l3.toNatClampNeg) &&& (63 : Int32)) = (32 : Int32)
                                                                      · have hf := z_it c373 hf
                                                                        refine lv_tableIn (off := 1162) (tgt := 1195) hx hb dL_law_33 (by rw [c373]; decide) (by rw [c373]; decide) (by rw [c373]; decide) (by decide) ?_
                                                                        refine lv_aload_n hx hb dL_law_1195 rfl (lv_at hl 1 rfl) ?_
                                                                        obtain ⟨r374, M375, e376, hf⟩ := z_lpe hf
                                                                        refine z_cV (As := []) (rest := []) B hW (f_X10_tear l e376 h1) sc_X10_tear sv_L_149 h1 ⟨Nat.le_of_ble_eq_true rfl, Nat.le_of_ble_eq_true rfl⟩ ⟨hnc, hns⟩ rfl hl.1 rfl (Nat.le_of_ble_eq_true rfl) dL_law_1196 (fun H locs hW => ?_)
                                                                        refine lv_aload_n hx hb dL_law_1199 rfl (lv_at hl 2 rfl) ?_
                                                                        obtain ⟨r377, M378, e379, hf⟩ := z_lpe hf
                                                                        refine z_cV (As := []) (rest := [.int r374]) B hW (f_X11_tear l e379 h2) sc_X11_tear sv_L_152 h2 ⟨Nat.le_of_ble_eq_true rfl, Nat.le_of_ble_eq_true rfl⟩ ⟨hnc, hns⟩ rfl hl.1 rfl (Nat.le_of_ble_eq_true rfl) dL_law_1200 (fun H locs hW => ?_)
                                                                        refine lv_icmp_eq (tgt := 1254) hx hb dL_law_1203 (by decide) (fun c380 => ?_) (fun c380 => ?_)
                                                                        · have hf := z_it c380 hf
                                                                          refine lv_iinc (v := l3 + (6 : Int32)) (lv' := [(3, .int (l3 + (6 : Int32))), (0, .ref b), (1, .ref l1), (2, .ref l2)]) hx hb dL_law_1254 hl (k := 3) rfl rfl (by decide) rfl (fun ls hl => ?_)
                                                                          refine lv_goto (tgt := 18) hx hb dL_law_1257 (by decide) ?_
                                                                          exact ih M378 l1 l2 (l3 + (6 : Int32)) hf h1 h2 _ _ _ hW (lv_sub hl [1, 2, 3, 0] rfl)
                                                                        · have hf := z_if c380 hf
                                                                          refine lv_iconst (v := 0) hx hb dL_law_1206 (by decide) ?_
                                                                          exact absurd (Option.some.inj hf) (by decide)
                                                                      · have hf := z_if c373 hf
                                                                        by_cases c381 : ((xs l3.toNatClampNeg) &&& (63 : Int32)) = (33 : Int32)
                                                                        · have hf := z_it c381 hf
                                                                          refine lv_tableIn (off := 1175) (tgt := 1208) hx hb dL_law_33 (by rw [c381]; decide) (by rw [c381]; decide) (by rw [c381]; decide) (by decide) ?_
                                                                          refine lv_aload_n hx hb dL_law_1208 rfl (lv_at hl 1 rfl) ?_
                                                                          refine lv_aload_n hx hb dL_law_1209 rfl (lv_at hl 0 rfl) ?_
                                                                          refine lv_iload_n hx hb dL_law_1210 rfl (lv_at hl 3 rfl) ?_
                                                                          refine lv_iconst (v := 1) hx hb dL_law_1211 (by decide) ?_
                                                                          refine lv_iadd hx hb dL_law_1212 ?_
                                                                          obtain ⟨g382, hf⟩ := z_gd hf
                                                                          refine va_sld hx hb hX hbl hbA hW.2.2 g382 dL_law_1213 ?_
                                                                          obtain ⟨r383, M384, e385, hf⟩ := z_bpe hf
                                                                          refine z_cV (As := [.int (xs ((l3 + (1 : Int32)).toNatClampNeg))]) (rest := []) B hW (f_X10_count l e385 h1) sc_X10_count sv_L_153 h1 ⟨Nat.le_of_ble_eq_true rfl, Nat.le_of_ble_eq_true rfl⟩ ⟨hnc, hns⟩ rfl hl.1 rfl (Nat.le_of_ble_eq_true rfl) dL_law_1214 (fun H locs hW => ?_)
                                                                          refine lv_aload_n hx hb dL_law_1217 rfl (lv_at hl 2 rfl) ?_
                                                                          refine lv_aload_n hx hb dL_law_1218 rfl (lv_at hl 0 rfl) ?_
                                                                          refine lv_iload_n hx hb dL_law_1219 rfl (lv_at hl 3 rfl) ?_
                                                                          refine lv_iconst (v := 1) hx hb dL_law_1220 (by decide) ?_
                                                                          refine lv_iadd hx hb dL_law_1221 ?_
                                                                          obtain ⟨g386, hf⟩ := z_gd hf
                                                                          refine va_sld hx hb hX hbl hbA hW.2.2 g386 dL_law_1222 ?_
                                                                          obtain ⟨r387, M388, e389, hf⟩ := z_bpe hf
                                                                          refine z_cV (As := [.int (xs ((l3 + (1 : Int32)).toNatClampNeg))]) (rest := [.int r383]) B hW (f_X11_count l e389 h2) sc_X11_count sv_L_156 h2 ⟨Nat.le_of_ble_eq_true rfl, Nat.le_of_ble_eq_true rfl⟩ ⟨hnc, hns⟩ rfl hl.1 rfl (Nat.le_of_ble_eq_true rfl) dL_law_1223 (fun H locs hW => ?_)
                                                                          refine lv_icmp_eq (tgt := 1254) hx hb dL_law_1226 (by decide) (fun c390 => ?_) (fun c390 => ?_)
                                                                          · have hf := z_it c390 hf
                                                                            refine lv_iinc (v := l3 + (6 : Int32)) (lv' := [(3, .int (l3 + (6 : Int32))), (0, .ref b), (1, .ref l1), (2, .ref l2)]) hx hb dL_law_1254 hl (k := 3) rfl rfl (by decide) rfl (fun ls hl => ?_)
                                                                            refine lv_goto (tgt := 18) hx hb dL_law_1257 (by decide) ?_
                                                                            exact ih M388 l1 l2 (l3 + (6 : Int32)) hf h1 h2 _ _ _ hW (lv_sub hl [1, 2, 3, 0] rfl)
                                                                          · have hf := z_if c390 hf
                                                                            refine lv_iconst (v := 0) hx hb dL_law_1229 (by decide) ?_
                                                                            exact absurd (Option.some.inj hf) (by decide)
                                                                        · have hf := z_if c381 hf
                                                                          by_cases c391 : ((xs l3.toNatClampNeg) &&& (63 : Int32)) = (34 : Int32)
                                                                          · have hf := z_it c391 hf
                                                                            refine lv_tableIn (off := 1198) (tgt := 1231) hx hb dL_law_33 (by rw [c391]; decide) (by rw [c391]; decide) (by rw [c391]; decide) (by decide) ?_
                                                                            refine lv_aload_n hx hb dL_law_1231 rfl (lv_at hl 1 rfl) ?_
                                                                            refine lv_aload_n hx hb dL_law_1232 rfl (lv_at hl 0 rfl) ?_
                                                                            refine lv_iload_n hx hb dL_law_1233 rfl (lv_at hl 3 rfl) ?_
                                                                            refine lv_iconst (v := 1) hx hb dL_law_1234 (by decide) ?_
                                                                            refine lv_iadd hx hb dL_law_1235 ?_
                                                                            obtain ⟨g392, hf⟩ := z_gd hf
                                                                            refine va_sld hx hb hX hbl hbA hW.2.2 g392 dL_law_1236 ?_
                                                                            obtain ⟨r393, M394, e395, hf⟩ := z_bpe hf
                                                                            refine z_cV (As := [.int (xs ((l3 + (1 : Int32)).toNatClampNeg))]) (rest := []) B hW (f_X10_status l e395 h1) sc_X10_status sv_L_157 h1 ⟨Nat.le_of_ble_eq_true rfl, Nat.le_of_ble_eq_true rfl⟩ ⟨hnc, hns⟩ rfl hl.1 rfl (Nat.le_of_ble_eq_true rfl) dL_law_1237 (fun H locs hW => ?_)
                                                                            refine lv_aload_n hx hb dL_law_1240 rfl (lv_at hl 2 rfl) ?_
                                                                            refine lv_aload_n hx hb dL_law_1241 rfl (lv_at hl 0 rfl) ?_
                                                                            refine lv_iload_n hx hb dL_law_1242 rfl (lv_at hl 3 rfl) ?_
                                                                            refine lv_iconst (v := 1) hx hb dL_law_1243 (by decide) ?_
                                                                            refine lv_iadd hx hb dL_law_1244 ?_
                                                                            obtain ⟨g396, hf⟩ := z_gd hf
                                                                            refine va_sld hx hb hX hbl hbA hW.2.2 g396 dL_law_1245 ?_
                                                                            obtain ⟨r397, M398, e399, hf⟩ := z_bpe hf
                                                                            refine z_cV (As := [.int (xs ((l3 + (1 : Int32)).toNatClampNeg))]) (rest := [.int r393]) B hW (f_X11_status l e399 h2) sc_X11_status sv_L_160 h2 ⟨Nat.le_of_ble_eq_true rfl, Nat.le_of_ble_eq_true rfl⟩ ⟨hnc, hns⟩ rfl hl.1 rfl (Nat.le_of_ble_eq_true rfl) dL_law_1246 (fun H locs hW => ?_)
                                                                            refine lv_icmp_eq (tgt := 1254) hx hb dL_law_1249 (by decide) (fun c400 => ?_) (fun c400 => ?_)
                                                                            · have hf := z_it c400 hf
                                                                              refine lv_iinc (v := l3 + (6 : Int32)) (lv' := [(3, .int (l3 + (6 : Int32))), (0, .ref b), (1, .ref l1), (2, .ref l2)]) hx hb dL_law_1254 hl (k := 3) rfl rfl (by decide) rfl (fun ls hl => ?_)
                                                                              refine lv_goto (tgt := 18) hx hb dL_law_1257 (by decide) ?_
                                                                              exact ih M398 l1 l2 (l3 + (6 : Int32)) hf h1 h2 _ _ _ hW (lv_sub hl [1, 2, 3, 0] rfl)
                                                                            · have hf := z_if c400 hf
                                                                              refine lv_iconst (v := 0) hx hb dL_law_1252 (by decide) ?_
                                                                              exact absurd (Option.some.inj hf) (by decide)
                                                                          · have hf := z_if c391 hf
                                                                            have hsw : ((xs l3.toNatClampNeg) &&& (63 : Int32)).toInt < 0 ∨ 34 < ((xs l3.toNatClampNeg) &&& (63 : Int32)).toInt := by
                                                                              have ec3 := z_nei 0 (by decide) c3
                                                                              have ec13 := z_nei 1 (by decide) c13
                                                                              have ec25 := z_nei 2 (by decide) c25
                                                                              have ec35 := z_nei 3 (by decide) c35
                                                                              have ec47 := z_nei 4 (by decide) c47
                                                                              have ec61 := z_nei 5 (by decide) c61
                                                                              have ec73 := z_nei 6 (by decide) c73
                                                                              have ec85 := z_nei 7 (by decide) c85
                                                                              have ec97 := z_nei 8 (by decide) c97
                                                                              have ec109 := z_nei 9 (by decide) c109
                                                                              have ec119 := z_nei 10 (by decide) c119
                                                                              have ec129 := z_nei 11 (by decide) c129
                                                                              have ec143 := z_nei 12 (by decide) c143
                                                                              have ec155 := z_nei 13 (by decide) c155
                                                                              have ec165 := z_nei 14 (by decide) c165
                                                                              have ec177 := z_nei 15 (by decide) c177
                                                                              have ec189 := z_nei 16 (by decide) c189
                                                                              have ec201 := z_nei 17 (by decide) c201
                                                                              have ec213 := z_nei 18 (by decide) c213
                                                                              have ec225 := z_nei 19 (by decide) c225
                                                                              have ec235 := z_nei 20 (by decide) c235
                                                                              have ec245 := z_nei 21 (by decide) c245
                                                                              have ec257 := z_nei 22 (by decide) c257
                                                                              have ec265 := z_nei 23 (by decide) c265
                                                                              have ec273 := z_nei 24 (by decide) c273
                                                                              have ec287 := z_nei 25 (by decide) c287
                                                                              have ec303 := z_nei 26 (by decide) c303
                                                                              have ec321 := z_nei 27 (by decide) c321
                                                                              have ec331 := z_nei 28 (by decide) c331
                                                                              have ec343 := z_nei 29 (by decide) c343
                                                                              have ec357 := z_nei 30 (by decide) c357
                                                                              have ec365 := z_nei 31 (by decide) c365
                                                                              have ec373 := z_nei 32 (by decide) c373
                                                                              have ec381 := z_nei 33 (by decide) c381
                                                                              have ec391 := z_nei 34 (by decide) c391
                                                                              omega
                                                                            refine lv_tableOut (tgt := 1254) hx hb dL_law_33 hsw (by decide) ?_
                                                                            refine lv_iinc (v := l3 + (6 : Int32)) (lv' := [(3, .int (l3 + (6 : Int32))), (0, .ref b), (1, .ref l1), (2, .ref l2)]) hx hb dL_law_1254 hl (k := 3) rfl rfl (by decide) rfl (fun ls hl => ?_)
                                                                            refine lv_goto (tgt := 18) hx hb dL_law_1257 (by decide) ?_
                                                                            exact ih M l1 l2 (l3 + (6 : Int32)) hf h1 h2 _ _ _ hW (lv_sub hl [1, 2, 3, 0] rfl)
end
