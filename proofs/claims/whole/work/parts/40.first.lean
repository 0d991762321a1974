/-! the first hour at which something is so -/
def o_fh (T : Pk → Prop) [DecidablePred T] : Nat → Nat → Pk → Option Nat
  | 0, _, _ => none
  | r + 1, l, Q => if T Q then some l else o_fh T r (l + 1) (o_hr Q)
theorem c_fh {Γ : Zg} {sz : Nat} (g : g_Ok Γ sz) {S : Sg} (o : SO S) {T : Pk → Prop} [DecidablePred T] {k a b : Int32} (hT : ∀ M Q, o_C M (sz + 18) Q → o_ok Q → pN Q = pN (sP S) → X10_isSoAhead Γ M sz k a b = some (if T Q then 1 else 0)) : ∀ (r f l : Nat) {M : Zm} {Q : Pk}, r + l = 201 → r < f → o_C M (sz + 18) Q → o_ok Q → pN Q = pN (sP S) → ∃ M', X10_firstHour_P14 Γ f M sz k a b (nI l) = (match o_fh T r l Q with | some t => some (nI t, M') | none => X10_finding Γ M' sz (-1000000004)) ∧ o_F (o_A sz) M M'
  | 0, f + 1, l, M, Q, hl, _, _, _, _ => by
    have : l = 201 := by omega
    subst this
    refine ⟨M, ?_, o_F.rf⟩
    rw [X10_firstHour_P14, if_pos (by decide), z_bpi]
    rfl
  | r + 1, f + 1, l, M, Q, hl, hf, h, ok, hn => by
    rw [X10_firstHour_P14, if_neg (by rw [show (200 : Int32) = nI 200 from rfl]; exact nI_nlt (by omega) (by omega)), hT M Q h ok hn, Option.bind_some, o_fh]
    by_cases c : T Q
    · rw [if_pos c, if_neg (by decide), if_pos c]
      exact ⟨M, rfl, o_F.rf⟩
    · rw [if_neg c, if_pos rfl, if_neg c]
      obtain ⟨M1, e1, c1, f1⟩ := c_goA g h ok (n := 1) (by decide)
      have ee : X3_letHoursGo Γ M (z_r Γ sz 1) 1 = some M1 := e1
      rw [ee, Option.bind_some, nI_s]
      obtain ⟨M2, e2, f2⟩ := c_fh g o hT r f (l + 1) (M := M1) (Q := o_hr Q) (by omega) (by omega) c1 (o_hr_ok ok) ((o_hr_E ok).1.trans hn)
      exact ⟨M2, e2, f1.tr f2⟩
def r_E (Γ : Zg) (m : Nat) (M : Zm) (l : Int32) : Option (Int32 × Zm) := (X11_copyRow M (z_r Γ m 3) (z_r Γ m 0)).bind (fun M' => if 200 < l then z_bp (X11_finds Γ M' m (-1000000004)) (fun r M => some (r, M)) else some (l, M'))
theorem r_fh {Γ : Zg} {sz : Nat} (g : g_Ok Γ sz) {S : Sg} (o : SO S) {T : Pk → Prop} [DecidablePred T] {L : Nat → Zm → Int32 → Option (Int32 × Zm)} (h0 : ∀ n M, L (n + 1) M (nI 201) = r_E Γ (sz + 51) M (nI 201)) (hT : ∀ n M Q l, l ≤ 200 → rA sz S M Q → o_ok Q → pN Q = pN (sP S) → L (n + 1) M (nI l) = if T Q then r_E Γ (sz + 51) M (nI l) else (X11_goesOn Γ M (sz + 51)).bind (fun M' => L n M' (nI l + 1))) : ∀ (r f l : Nat) {M : Zm} {Q : Pk}, r + l = 201 → r < f → rA sz S M Q → o_ok Q → pN Q = pN (sP S) → ∃ M', L f M (nI l) = (match o_fh T r l Q with | some t => some (nI t, M') | none => X11_finds Γ M' (sz + 51) (-1000000004)) ∧ SM sz M' S ∧ fR sz M M'
  | 0, f + 1, l, M, Q, hl, _, h, _, _ => by
    have : l = 201 := by omega
    subst this
    obtain ⟨M', e', _, c', f'⟩ := r_back g o h
    refine ⟨M', ?_, c', f'⟩
    rw [h0]
    unfold r_E
    rw [e', Option.bind_some, if_pos (by decide), z_bpi]
    rfl
  | r + 1, f + 1, l, M, Q, hl, hf, h, ok, hn => by
    rw [hT f M Q l (by omega) h ok hn, o_fh]
    by_cases c : T Q
    · obtain ⟨M', e', _, c', f'⟩ := r_back g o h
      refine ⟨M', ?_, c', f'⟩
      rw [if_pos c, if_pos c]
      unfold r_E
      rw [e', Option.bind_some, if_neg (by rw [show (200 : Int32) = nI 200 from rfl]; exact nI_nlt (by omega) (by omega))]
    · rw [if_neg c, if_neg c]
      obtain ⟨M1, e1, c1, f1⟩ := r_onA g h ok
      rw [e1, Option.bind_some, nI_s]
      obtain ⟨M2, e2, c2, f2⟩ := r_fh g o h0 hT r f (l + 1) (M := M1) (Q := o_hr Q) (by omega) (by omega) c1 (o_hr_ok ok) ((o_hr_E ok).1.trans hn)
      exact ⟨M2, e2, c2, f1.tr f2⟩
theorem e_fh {Γ : Zg} {sz : Nat} (g : g_Ok Γ sz) {S : Sg} (o : SO S) {T : Pk → Prop} [DecidablePred T] {k a b : Int32} {L : Nat → Zm → Int32 → Option (Int32 × Zm)} (hC : ∀ M Q, o_C M (sz + 18) Q → o_ok Q → pN Q = pN (sP S) → X10_isSoAhead Γ M sz k a b = some (if T Q then 1 else 0)) (h0 : ∀ n M, L (n + 1) M (nI 201) = r_E Γ (sz + 51) M (nI 201)) (hT : ∀ n M Q l, l ≤ 200 → rA sz S M Q → o_ok Q → pN Q = pN (sP S) → L (n + 1) M (nI l) = if T Q then r_E Γ (sz + 51) M (nI l) else (X11_goesOn Γ M (sz + 51)).bind (fun M' => L n M' (nI l + 1))) : eS sz (fun M => z_bp (X10_firstHour Γ M sz k a b) (fun r M => some (r, M))) (fun M => (X11_copyRow M (z_r Γ (sz + 51) 0) (z_r Γ (sz + 51) 3)).bind (fun M => L 1000 M 0)) S := by
  have A : ∀ M, SC sz M S → ∃ M', X10_firstHour Γ M sz k a b = (match o_fh T 201 0 (sP S) with | some t => some (nI t, M') | none => X10_finding Γ M' sz (-1000000004)) ∧ o_F (o_A sz) M M' := by
    intro M h
    obtain ⟨M1, e1, c1, f1⟩ := c_ahead g o h
    obtain ⟨M2, e2, f2⟩ := c_fh g o hC 201 1000 0 (by omega) (by omega) c1 o.1.1 rfl
    refine ⟨M2, ?_, f1.tr f2⟩
    unfold X10_firstHour
    rw [e1, Option.bind_some]
    exact e2
  have B : ∀ M, SM sz M S → ∃ M', (X11_copyRow M (z_r Γ (sz + 51) 0) (z_r Γ (sz + 51) 3)).bind (fun M => L 1000 M 0) = (match o_fh T 201 0 (sP S) with | some t => some (nI t, M') | none => X11_finds Γ M' (sz + 51) (-1000000004)) ∧ SM sz M' S ∧ fR sz M M' := by
    intro M h
    obtain ⟨M1, e1, c1, f1⟩ := r_start g o h
    obtain ⟨M2, e2, c2, f2⟩ := r_fh g o h0 hT 201 1000 0 (by omega) (by omega) c1 o.1.1 rfl
    refine ⟨M2, ?_, c2, f1.tr f2⟩
    rw [e1, Option.bind_some]
    exact e2
  cases q : o_fh T 201 0 (sP S) with
  | some t =>
    refine ⟨nI t, S, fun M h => ?_, fun M h => ?_, o⟩
    · obtain ⟨M', e, f⟩ := A M h
      rw [q] at e
      exact ⟨M', by show z_bp _ _ = _; rw [z_bpi]; exact e, h.ah o f, f_AC f⟩
    · obtain ⟨M', e, c, f⟩ := B M h
      rw [q] at e
      exact ⟨M', e, c, f⟩
  | none =>
    refine ⟨-1000000004, _, fun M h => ?_, fun M h => ?_, SO.q o (o_fq (sQ S) 3)⟩
    · obtain ⟨M', e, f⟩ := A M h
      rw [q] at e
      obtain ⟨M2, e2, c2, f2⟩ := c_fd g o (k := 3) (x := -1000000004) (by decide) (by decide) M' (h.ah o f)
      exact ⟨M2, by show z_bp _ _ = _; rw [z_bpi]; exact e.trans e2, c2, (f_AC f).tr f2⟩
    · obtain ⟨M', e, c, f⟩ := B M h
      rw [q] at e
      obtain ⟨M2, e2, c2, f2⟩ := r_fd g (k := 3) (x := -1000000004) (by decide) (by decide) M' c
      exact ⟨M2, e.trans e2, c2, f.tr f2⟩
theorem o_h01 (x y : Int32) : (if X10_holds x y = 0 ∨ X10_holds x y = 1 then some (X10_holds x y) else none) = some (if ¬ (x >>> (y &&& 31)) &&& 1 = 0 then (1 : Int32) else 0) := by
  unfold X10_holds
  by_cases c : (x >>> (y &&& 31)) &&& 1 = 0
  · rw [if_pos c, if_neg (not_not_intro c), if_pos (Or.inl rfl)]
  · rw [if_neg c, if_pos c, if_pos (Or.inr rfl)]
theorem e_knows {Γ : Zg} {sz : Nat} (g : g_Ok Γ sz) {S : Sg} (o : SO S) (a b : Int32) : eS sz (fun M => X10_knows Γ M sz a b) (fun M => X11_knows Γ M (sz + 51) a b) S := by
  unfold X10_knows X11_knows
  refine eS.has g o a (fun i hi ea => ?_)
  subst ea
  have h8 := o.1.1.1
  refine eS.ite (b < 0 ∨ 10 ≤ b) (fun M _ => i_sec b) (fun M _ => i_secR b) (fun _ => eS.fd1 g o 0 (by decide) (by decide)) (fun c => ?_)
  refine e_fh (T := fun Q => ¬ (pV Q i 1 >>> (b &&& 31)) &&& 1 = 0) (L := fun n M l => X11_knows_P35 Γ n M (sz + 51) (nI i) b l) g o (fun M Q h ok hn => ?_) (fun n M => ?_) (fun n M Q l hl h ok hn => ?_)
  · unfold X10_isSoAhead
    rw [if_pos rfl, c_visA g (by omega), Option.bind_some, h.2.2.2.2 i (by omega) 1 (by decide), o_h01]
  · show X11_knows_P35 Γ (n + 1) M (sz + 51) (nI i) b (nI 201) = _
    rw [X11_knows_P35, if_pos (by decide)]
    rfl
  · show X11_knows_P35 Γ (n + 1) M (sz + 51) (nI i) b (nI l) = _
    rw [X11_knows_P35, if_neg (by rw [show (200 : Int32) = nI 200 from rfl]; exact nI_nlt (by omega) (by omega)), r_its (x := 1) (gm g).1 h.1.1 (by show pN Q ≤ 8; omega) (i := i) (by show i < pN Q; omega) (j := 1) rfl (by decide), Option.bind_some]
    show (if (pV Q i 1 >>> (b &&& 31)) &&& 1 = 0 then _ else _) = _
    by_cases d : (pV Q i 1 >>> (b &&& 31)) &&& 1 = 0
    · rw [if_pos d, if_neg (not_not_intro d)]
    · rw [if_neg d, if_pos d]
      rfl
theorem e_out {Γ : Zg} {sz : Nat} (g : g_Ok Γ sz) {S : Sg} (o : SO S) (b : Int32) : eS sz (fun M => X10_out Γ M sz b) (fun M => X11_out Γ M (sz + 51) b) S := by
  unfold X10_out X11_out
  have h8 := o.1.1.1
  refine eS.ite (b < 0 ∨ 10 ≤ b) (fun M _ => i_sec b) (fun M _ => i_secR b) (fun _ => eS.fd1 g o 0 (by decide) (by decide)) (fun c => ?_)
  refine e_fh (T := fun Q => ¬ (o_out Q >>> (b &&& 31)) &&& 1 = 0) (L := fun n M l => X11_out_P27 Γ n M (sz + 51) b l) g o (fun M Q h ok hn => ?_) (fun n M => ?_) (fun n M Q l hl h ok hn => ?_)
  · unfold X10_isSoAhead
    rw [if_neg (by decide), if_pos rfl, (gx g).2.1, c_out (g_P18 g) h (by omega), Option.bind_some, o_h01]
  · show X11_out_P27 Γ (n + 1) M (sz + 51) b (nI 201) = _
    rw [X11_out_P27, if_pos (by decide)]
    rfl
  · show X11_out_P27 Γ (n + 1) M (sz + 51) b (nI l) = _
    have h9 : o_R M (sz + 52) Q := h.1.1
    rw [X11_out_P27, if_neg (by rw [show (200 : Int32) = nI 200 from rfl]; exact nI_nlt (by omega) (by omega)), r_out (gm g).1 h9 (by omega), Option.bind_some]
    by_cases d : (o_out Q >>> (b &&& 31)) &&& 1 = 0
    · rw [if_pos d, if_neg (not_not_intro d)]
    · rw [if_neg d, if_pos d]
      rfl
