/-! looking ahead: the class on its second park, the reference on its own row, put back after -/
def o_A (sz : Nat) : Nat → Prop := fun b => o_cS (sz + 18) b ∨ b = sz + 50
theorem SC.ah {sz : Nat} {M M' : Zm} {S : Sg} (h : SC sz M S) (o : SO S) (f : o_F (o_A sz) M M') : SC sz M' S := by
  have e : o_F (o_T8 sz) M M' := f.mono (fun b hb => hb.elim (fun q => Or.inl ⟨by have := q.1; omega, by have := q.2; omega⟩) (fun q => Or.inr q))
  exact SC.here (P := sP S) h o (h.1.keep o.1.1.1 (fun b h1 h2 => f.1 b (fun q => by
    rcases q with q | q
    · have := q.1; omega
    · omega))) e
theorem f_AC {sz : Nat} {M M' : Zm} (f : o_F (o_A sz) M M') : fC sz M M' := f.fC (fun b hb => by
  rcases hb with q | q
  · have := q.2; omega
  · omega)
theorem f_18 {sz : Nat} {M M' : Zm} (f : o_F (o_cS (sz + 18)) M M') : o_F (o_A sz) M M' := f.mono (fun _ hb => Or.inl hb)
theorem c_ahead {Γ : Zg} {sz : Nat} (g : g_Ok Γ sz) {S : Sg} (o : SO S) {M : Zm} (h : SC sz M S) : ∃ M', X3_become Γ M (z_r Γ sz 1) (z_r Γ sz 0) = some M' ∧ o_C M' (sz + 18) (sP S) ∧ o_F (o_A sz) M M' := by
  obtain ⟨M', e', c', f'⟩ := c_bec (g_P18 g) (g_P8 g) (by omega) h.1 o.1.1.1
  exact ⟨M', by rw [(gx g).1, (gx g).2.1]; exact e', c', f_18 f'⟩
def rA (sz : Nat) (S : Sg) (M : Zm) (Q : Pk) : Prop := SM sz M (uP S Q) ∧ o_R M (sz + 55) (sP S)
theorem rA.st {sz : Nat} {S : Sg} {M M' : Zm} {Q Q' : Pk} (h : rA sz S M Q) (c : o_R M' (sz + 52) Q') (f : o_F (o_rS (sz + 52)) M M') : rA sz S M' Q' :=
  ⟨SM.here (S := uP S Q) h.1 c f.T52, h.2.keep (f.1 _ (fun q => by unfold o_rS at q; omega))⟩
theorem f_52 {sz : Nat} {M M' : Zm} (f : o_F (o_rS (sz + 52)) M M') : fR sz M M' := f_T52R f.T52
theorem r_start {Γ : Zg} {sz : Nat} (g : g_Ok Γ sz) {S : Sg} (o : SO S) {M : Zm} (h : SM sz M S) : ∃ M', X11_copyRow M (z_r Γ (sz + 51) 0) (z_r Γ (sz + 51) 3) = some M' ∧ rA sz S M' (sP S) ∧ fR sz M M' := by
  obtain ⟨M', e', c', f'⟩ := r_cop (v := sz + 52) (w := sz + 55) (by omega) h.1 o.1.1.1
  have F : o_F (o_T52 sz) M M' := f'.mono (fun b hb => Or.inr (Or.inr hb))
  refine ⟨M', by rw [(gm g).1, (gm g).2.2.2.1]; exact e', ⟨SM.here (P := sP S) h (h.1.keep (f'.1 _ (fun q => by unfold o_rS at q; omega))) F, c'⟩, f_T52R F⟩
theorem r_back {Γ : Zg} {sz : Nat} (g : g_Ok Γ sz) {S : Sg} (o : SO S) {M : Zm} {Q : Pk} (h : rA sz S M Q) : ∃ M', X11_copyRow M (z_r Γ (sz + 51) 3) (z_r Γ (sz + 51) 0) = some M' ∧ rA sz S M' (sP S) ∧ SM sz M' S ∧ fR sz M M' := by
  obtain ⟨M', e', c', f'⟩ := r_cop (v := sz + 55) (w := sz + 52) (by omega) h.2 o.1.1.1
  have q := h.st c' f'
  exact ⟨M', by rw [(gm g).1, (gm g).2.2.2.1]; exact e', q, q.1, f_52 f'⟩
theorem r_onA {Γ : Zg} {sz : Nat} (g : g_Ok Γ sz) {S : Sg} {M : Zm} {Q : Pk} (h : rA sz S M Q) (ok : o_ok Q) : ∃ M', X11_goesOn Γ M (sz + 51) = some M' ∧ rA sz S M' (o_hr Q) ∧ fR sz M M' := by
  obtain ⟨M', e', c', f'⟩ := r_on (gm g).1 h.1.1 ok
  exact ⟨M', e', h.st c' f', f_52 f'⟩
theorem r_goA {Γ : Zg} {sz : Nat} (g : g_Ok Γ sz) {S : Sg} {M : Zm} {Q : Pk} (h : rA sz S M Q) (ok : o_ok Q) {n : Nat} (hn : n < 999) : ∃ M', X11_goes Γ M (sz + 51) (nI n) = some M' ∧ rA sz S M' (o_hrs n Q) ∧ fR sz M M' := by
  obtain ⟨M', e', c', f'⟩ := r_go (gm g).1 hn h.1.1 ok
  exact ⟨M', e', h.st c' f', f_52 f'⟩
theorem c_goA {Γ : Zg} {sz : Nat} (g : g_Ok Γ sz) {M : Zm} {Q : Pk} (h : o_C M (sz + 18) Q) (ok : o_ok Q) {n : Nat} (hn : n < 999) : ∃ M', X3_letHoursGo Γ M (z_r Γ sz 1) (nI n) = some M' ∧ o_C M' (sz + 18) (o_hrs n Q) ∧ o_F (o_A sz) M M' := by
  obtain ⟨M', e', c', f'⟩ := c_go (g_P18 g) hn h ok
  exact ⟨M', by rw [(gx g).2.1]; exact e', c', f_18 f'⟩
theorem c_visA {Γ : Zg} {sz : Nat} (g : g_Ok Γ sz) {i : Nat} (hi : i < 8) : X3_visitor Γ (z_r Γ sz 1) (nI i) = some (sz + 18 + 2 + i) := by
  rw [(gx g).2.1]; exact c_vis (g_P18 g) hi
theorem e_on {Γ : Zg} {sz : Nat} (g : g_Ok Γ sz) {S : Sg} (o : SO S) (a b c : Int32) : eS sz (fun M => X10_on Γ M sz a b c) (fun M => X11_on Γ M (sz + 51) a b c) S := by
  unfold X10_on X11_on
  refine eS.has g o a (fun i hi ea => ?_)
  subst ea
  have h8 := o.1.1.1
  by_cases d : b < 0 ∨ 200 < b
  · refine eS.fd g o 0 (x := -1000000001) (by decide) (by decide) (fun M _ => ?_) (fun M _ => by rw [if_pos ((x_in2 0 200 b (by decide) (by decide)).mpr d)])
    by_cases e : b < 0
    · rw [if_pos e]
    · rw [if_neg e, if_pos (d.resolve_left e)]
  · refine eS.ch (fun M _ => by rw [if_neg (fun q => d (Or.inl q)), if_neg (fun q => d (Or.inr q))]) (fun M _ => by rw [if_neg (fun q => d ((x_in2 0 200 b (by decide) (by decide)).mp q))]) ?_
    obtain ⟨n, hn, rfl⟩ := o_rg (n := 200) (by decide) (fun q => d (Or.inl q)) (fun q => d (Or.inr q))
    by_cases d2 : c < 0 ∨ 2 < c
    · refine eS.fd g o 0 (x := -1000000001) (by decide) (by decide) (fun M _ => ?_) (fun M _ => by rw [if_pos ((x_in2 0 2 c (by decide) (by decide)).mpr d2)])
      by_cases e : c < 0
      · rw [if_pos e]
      · rw [if_neg e, if_neg (fun q => Int32.not_le.mpr (d2.resolve_left e) q)]
    · refine eS.ch (fun M _ => by rw [if_neg (fun q => d2 (Or.inl q)), if_pos (Int32.not_lt.mp (fun q => d2 (Or.inr q)))]) (fun M _ => by rw [if_neg (fun q => d2 ((x_in2 0 2 c (by decide) (by decide)).mp q))]) ?_
      obtain ⟨j, hj, rfl⟩ := o_rg (n := 2) (by decide) (fun q => d2 (Or.inl q)) (fun q => d2 (Or.inr q))
      have hk := o_hrs_ok n o.1.1
      refine ⟨pV (o_hrs n (sP S)) i (1 + j), S, fun M h => ?_, fun M h => ?_, o⟩
      · obtain ⟨M1, e1, c1, f1⟩ := c_ahead g o h
        obtain ⟨M2, e2, c2, f2⟩ := c_goA g c1 o.1.1 (n := n) (by omega)
        refine ⟨M2, ?_, h.ah o (f1.tr f2), f_AC (f1.tr f2)⟩
        have v := c2.2.2.2.2 i (by rw [hk.2.1]; exact hi)
        show ((X3_become Γ M (z_r Γ sz 1) (z_r Γ sz 0)).bind _) = _
        rw [e1, Option.bind_some]
        show ((X3_letHoursGo Γ M1 (z_r Γ sz 1) (nI n)).bind _) = _
        rw [e2, Option.bind_some, c_visA g (by omega), Option.bind_some, v 1 (by decide), v 2 (by decide), v 3 (by decide)]
        have hj' : j = 0 ∨ j = 1 ∨ j = 2 := by omega
        rcases hj' with rfl | rfl | rfl <;> rfl
      · obtain ⟨M1, e1, c1, f1⟩ := r_start g o h
        obtain ⟨M2, e2, c2, f2⟩ := r_goA g c1 o.1.1 (n := n) (by omega)
        obtain ⟨M3, e3, c3, c4, f3⟩ := r_back g o c2
        refine ⟨M3, ?_, c4, (f1.tr f2).tr f3⟩
        show ((X11_copyRow M (z_r Γ (sz + 51) 0) (z_r Γ (sz + 51) 3)).bind _) = _
        rw [e1, Option.bind_some]
        show ((X11_goes Γ M1 (sz + 51) (nI n)).bind _) = _
        rw [e2, Option.bind_some, r_its (x := 1 + nI j) (gm g).1 c2.1.1 (by show pN (o_hrs n (sP S)) ≤ 8; rw [hk.2.1]; exact h8) (i := i) (by show i < pN (o_hrs n (sP S)); rw [hk.2.1]; exact hi) (j := 1 + j) (by rw [show (1 : Int32) = nI 1 from rfl, nI_add]) (by omega), Option.bind_some]
        show ((X11_copyRow M2 (z_r Γ (sz + 51) 3) (z_r Γ (sz + 51) 0)).bind _) = _
        rw [e3, Option.bind_some]
        rfl
