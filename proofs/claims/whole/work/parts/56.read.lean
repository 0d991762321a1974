/-! read -/
def o_gt (u : Nat → Int64) (p : Nat) : Nat → Nat → Pk → Bool
  | 0, _, _ => true
  | r + 1, i, Q => if u i = (pV Q p 1).toInt64 then o_gt u p r (i + 1) (o_hr Q) else false
def o_b1 (b : Bool) : Int32 := if b = true then 1 else 0
theorem c_gtL {Γ : Zg} {sz : Nat} (g : g_Ok Γ sz) {S : Sg} (o : SO S) {t p : Nat} (ht : t < 4) : ∀ (r f i : Nat) {Q : Pk} {M : Zm}, SC sz M S → o_C M (sz + 18) Q → o_ok Q → p < pN Q → i + r = sZ S t → r < f → ∃ M', X10_goesAsTold_P2 Γ f M sz (sz + 41 + 2 * t) (nI p) (nI i) = some (o_b1 (o_gt (sU S t) p r i Q), M') ∧ o_F (o_A sz) M M'
  | 0, f + 1, i, Q, M, h, hc, ok, hp, hi, _ => by
    have h40 := (o.2.2.2 t ht).2
    refine ⟨M, ?_, o_F.rf⟩
    rw [X10_goesAsTold_P2, (h.2.2.2.1 t ht).2.1, if_pos (nI_le (by omega) (by omega))]
    rfl
  | r + 1, f + 1, i, Q, M, h, hc, ok, hp, hi, hf => by
    have h40 := (o.2.2.2 t ht).2
    have h8 := ok.1
    have hu : M.2 (z_r Γ (sz + 41 + 2 * t) 0) i = sU S t i := by
      rw [(gx g).2.2.2.2.2.2.2.2.2 t ht]
      exact (h.2.2.2.1 t ht).2.2 i (by omega)
    rw [X10_goesAsTold_P2, (h.2.2.2.1 t ht).2.1, if_neg (nI_ge (by omega) (by omega)), if_pos (z_ixn (by omega) (by decide)), c_visA g (by omega), Option.bind_some, nI_cl (by omega), hu, hc.2.2.2.2 p hp 1 (by decide), o_gt]
    by_cases c : sU S t i = (pV Q p 1).toInt64
    · rw [if_pos c, if_pos ((lg_cmp_eq _ _).mpr c)]
      obtain ⟨M2, e2, c2, f2⟩ := c_go18 g hc ok (n := 1) (by decide)
      obtain ⟨M', e', f'⟩ := c_gtL g o ht r f (i + 1) (h.ah o (f_18 f2)) c2 (o_hr_ok ok) (by show p < pN (o_hr Q); rw [(o_hr_E ok).1]; exact hp) (by omega) (by omega)
      refine ⟨M', ?_, (f_18 f2).tr f'⟩
      rw [show (1 : Int32) = nI 1 from rfl, e2, Option.bind_some, nI_add]
      exact e'
    · rw [if_neg c, if_neg (fun q => c ((lg_cmp_eq _ _).mp q))]
      exact ⟨M, rfl, o_F.rf⟩
theorem r_gtL {Γ : Zg} {sz : Nat} (g : g_Ok Γ sz) {S : Sg} (o : SO S) {t p : Nat} (ht : t < 4) : ∀ (r f i : Nat) {Q : Pk} {M : Zm}, rA sz S M Q → o_ok Q → p < pN Q → i + r = sZ S t → r + 1 < f → ∃ M' Q', X11_isSo_P5 Γ f M (sz + 51) (nI t) (nI p) 1 (nI i) = some (o_b1 (o_gt (sU S t) p r i Q), M') ∧ rA sz S M' Q' ∧ fR sz M M'
  | 0, f + 1, i, Q, M, h, ok, hp, hi, _ => by
    have h40 := (o.2.2.2 t ht).2
    have hs : M.1 (z_r Γ (sz + 51) 9) t = nI (sZ S t) := by rw [(gm g).2.2.2.2.2.2.2.1]; exact (h.1.2.2.2.1 t ht).2.1
    refine ⟨M, Q, ?_, h, fR.rf⟩
    rw [X11_isSo_P5, if_pos (z_ixn ht (by decide)), nI_cl (n := t) (by omega), hs, if_pos (nI_le (by omega) (by omega)), if_pos (Or.inr rfl)]
    rfl
  | r + 1, f + 2, i, Q, M, h, ok, hp, hi, hf => by
    have h40 := (o.2.2.2 t ht).2
    have h8 := ok.1
    have hs : M.1 (z_r Γ (sz + 51) 9) t = nI (sZ S t) := by rw [(gm g).2.2.2.2.2.2.2.1]; exact (h.1.2.2.2.1 t ht).2.1
    have hu : M.2 (z_r Γ (sz + 51) 10) (40 * t + i) = sU S t i := by
      rw [(gm g).2.2.2.2.2.2.2.2]
      exact (h.1.2.2.2.1 t ht).2.2 i (by show i < sZ S t; omega)
    have it : X11_its Γ M (sz + 51) (nI p) 1 = some (pV Q p 1) := r_its (x := 1) (gm g).1 h.1.1 h8 hp (j := 1) rfl (by decide)
    obtain ⟨M2, e2, c2, f2⟩ := r_onA g h ok
    rw [X11_isSo_P5, if_pos (z_ixn ht (by decide)), nI_cl (n := t) (by omega), hs, if_neg (nI_ge (by omega) (by omega)), if_neg (by decide), o_40, if_pos (z_ixn (by omega) (by decide)), it, Option.bind_some, nI_cl (by omega), hu, e2, Option.bind_some, Option.bind_some, nI_s, o_gt]
    by_cases c : sU S t i = (pV Q p 1).toInt64
    · rw [if_pos c, if_pos ((lg_cmp_eq _ _).mpr c)]
      obtain ⟨M', Q', e', c', f'⟩ := r_gtL g o ht r (f + 1) (i + 1) c2 (o_hr_ok ok) (by rw [(o_hr_E ok).1]; exact hp) (by omega) (by omega)
      exact ⟨M', Q', e', c', f2.tr f'⟩
    · rw [if_neg c, if_neg (fun q => c ((lg_cmp_eq _ _).mp q))]
      have hs2 : M2.1 (z_r Γ (sz + 51) 9) t = nI (sZ S t) := by rw [(gm g).2.2.2.2.2.2.2.1]; exact (c2.1.2.2.2.1 t ht).2.1
      refine ⟨M2, _, ?_, c2, f2⟩
      rw [X11_isSo_P5, if_pos (z_ixn ht (by decide)), nI_cl (n := t) (by omega), hs2]
      by_cases d : sZ S t ≤ i + 1
      · rw [if_pos (nI_le d (by omega)), if_pos (Or.inl rfl)]; rfl
      · rw [if_neg (nI_ge (by omega) (by omega)), if_pos rfl, if_pos (Or.inl rfl)]; rfl
def o_rd (w : Nat → Bool) : Nat → Nat → Int32 → Int32
  | 0, _, c => c
  | r + 1, i, c => o_rd w r (i + 1) (if w i = true then c + 1 else c)
theorem t_pair : ∀ l, l < 36 → nI l / 6 = nI (l / 6) ∧ nI l - nI (l / 6) * 6 = nI (l % 6) ∧ l / 6 < 6 ∧ l % 6 < 6 := by decide +kernel
def o_pr (P : Pk) (p q l : Nat) : Pk := p_v (p_v P p 0 (nI (l / 6))) q 0 (nI (l % 6))
theorem o_pr_ok {P : Pk} (ok : o_ok P) (p q : Nat) {l : Nat} (hl : l < 36) : o_ok (o_pr P p q l) := by
  have e := (t_pair l hl).2.2
  exact o_ok.v (o_ok.v ok (Or.inr (Or.inr (Or.inr (Or.inr ⟨rfl, _, e.1, rfl⟩))))) (Or.inr (Or.inr (Or.inr (Or.inr ⟨rfl, _, e.2, rfl⟩))))
theorem c_rdL {Γ : Zg} {sz : Nat} (g : g_Ok Γ sz) {S : Sg} (o : SO S) {t p q : Nat} (ht : t < 4) (hp : p < pN (sP S)) (hq : q < pN (sP S)) : ∀ (r f l : Nat) (c : Int32) {M : Zm}, SC sz M S → l + r = 36 → r < f → ∃ M', X10_read_P41 Γ f M sz (nI t) (nI p) (nI q) c (nI l) = some (o_rd (fun l => o_gt (sU S t) p (sZ S t) 0 (o_pr (sP S) p q l)) r l c, M') ∧ o_F (o_A sz) M M'
  | 0, f + 1, l, c, M, h, hl, _ => by
    have : l = 36 := by omega
    subst this
    rw [X10_read_P41, if_pos (by decide)]
    exact ⟨M, rfl, o_F.rf⟩
  | r + 1, f + 1, l, c, M, h, hl, hf => by
    have ok := o.1.1
    have h8 := ok.1
    have h40 := (o.2.2.2 t ht).2
    have tp := t_pair l (by omega)
    obtain ⟨M1, e1, c1, f1⟩ := c_ahead g o h
    have s1 : o_A sz (sz + 18 + 2 + p) := Or.inl ⟨by omega, by omega⟩
    have s2 : o_A sz (sz + 18 + 2 + q) := Or.inl ⟨by omega, by omega⟩
    have c2 := c1.v (i := p) (j := 0) (nI (l / 6)) hp (by decide)
    have f2 : o_F (o_A sz) M1 (z_i M1 (sz + 18 + 2 + p) 0 (nI (l / 6))) := o_F.i s1
    have c3 := c2.v (i := q) (j := 0) (nI (l % 6)) hq (by decide)
    have f3 : o_F (o_A sz) (z_i M1 (sz + 18 + 2 + p) 0 (nI (l / 6))) (z_i (z_i M1 (sz + 18 + 2 + p) 0 (nI (l / 6))) (sz + 18 + 2 + q) 0 (nI (l % 6))) := o_F.i s2
    have F3 := (f1.tr f2).tr f3
    obtain ⟨M4, e4, f4⟩ := c_gtL g o ht (p := p) (sZ S t) 1000 0 (h.ah o F3) c3 (o_pr_ok ok p q (l := l) (by omega)) hp (by omega) (by omega)
    have F4 := F3.tr f4
    obtain ⟨M', e', f'⟩ := c_rdL g o ht hp hq r f (l + 1) (if o_gt (sU S t) p (sZ S t) 0 (o_pr (sP S) p q l) = true then c + 1 else c) (h.ah o F4) (by omega) (by omega)
    refine ⟨M', ?_, F4.tr f'⟩
    have e4' : X10_goesAsTold Γ (z_i (z_i M1 (sz + 18 + 2 + p) 0 (nI (l / 6))) (sz + 18 + 2 + q) 0 (nI (l % 6))) sz (sz + 41 + 2 * t) (nI p) = some (o_b1 (o_gt (sU S t) p (sZ S t) 0 (o_pr (sP S) p q l)), M4) := e4
    rw [X10_read_P41, if_neg (by rw [show (36 : Int32) = nI 36 from rfl]; exact nI_ge (by omega) (by omega)), e1, Option.bind_some, c_visA g (by omega), Option.bind_some, z_lts, c_visA g (by omega), Option.bind_some, z_lts, if_pos (z_ixn ht (by decide)), nI_cl (n := t) (by omega), c_sha g ht, tp.1, tp.2.1, e4', z_bps, nI_s, o_rd]
    cases hb : o_gt (sU S t) p (sZ S t) 0 (o_pr (sP S) p q l) with
    | true =>
      rw [hb] at e'
      rw [if_neg (by decide), if_pos rfl]
      rw [if_pos rfl] at e'
      exact e'
    | false =>
      rw [hb] at e'
      rw [if_pos (by decide), if_neg (by decide)]
      rw [if_neg (by decide)] at e'
      exact e'
theorem r_rdL {Γ : Zg} {sz : Nat} (g : g_Ok Γ sz) {S : Sg} (o : SO S) {t p q : Nat} (ht : t < 4) (hp : p < pN (sP S)) (hq : q < pN (sP S)) : ∀ (r f l : Nat) (c : Int32) {M : Zm}, rA sz S M (sP S) → l + r = 36 → r < f → ∃ M', X11_read_P74 Γ f M (sz + 51) (nI t) (nI p) (nI q) c (nI l) = some (o_rd (fun l => o_gt (sU S t) p (sZ S t) 0 (o_pr (sP S) p q l)) r l c, M') ∧ SM sz M' S ∧ fR sz M M'
  | 0, f + 1, l, c, M, h, hl, _ => by
    have : l = 36 := by omega
    subst this
    rw [X11_read_P74, if_pos (by decide)]
    exact ⟨M, rfl, h.1, fR.rf⟩
  | r + 1, f + 1, l, c, M, h, hl, hf => by
    have ok := o.1.1
    have h8 := ok.1
    have h40 := (o.2.2.2 t ht).2
    have tp := t_pair l (by omega)
    have c2 := h.1.1.v (i := p) (j := 0) (nI (l / 6)) hp (by decide)
    have f2 : o_F (o_rS (sz + 52)) M (z_i M (sz + 52) (4 + 6 * p + 0) (nI (l / 6))) := o_F.i rfl
    have h2 := h.st c2 f2
    have c3 := h2.1.1.v (i := q) (j := 0) (nI (l % 6)) hq (by decide)
    have f3 : o_F (o_rS (sz + 52)) (z_i M (sz + 52) (4 + 6 * p + 0) (nI (l / 6))) (z_i (z_i M (sz + 52) (4 + 6 * p + 0) (nI (l / 6))) (sz + 52) (4 + 6 * q + 0) (nI (l % 6))) := o_F.i rfl
    have h3 := h2.st c3 f3
    obtain ⟨M4, Q4, e4, c4, f4⟩ := r_gtL g o ht (p := p) (sZ S t) 1000 0 h3 (o_pr_ok ok p q (l := l) (by omega)) hp (by omega) (by omega)
    obtain ⟨M5, e5, c5, _, f5⟩ := r_back g o c4
    obtain ⟨M', e', c', f'⟩ := r_rdL g o ht hp hq r f (l + 1) (if o_gt (sU S t) p (sZ S t) 0 (o_pr (sP S) p q l) = true then c + 1 else c) c5 (by omega) (by omega)
    refine ⟨M', ?_, c', ((((f_52 f2).tr (f_52 f3)).tr f4).tr f5).tr f'⟩
    have e4' : X11_isSo Γ (z_i (z_i M (sz + 52) (4 + 6 * p + 0) (nI (l / 6))) (sz + 52) (4 + 6 * q + 0) (nI (l % 6))) (sz + 51) (nI t) (nI p) = some (o_b1 (o_gt (sU S t) p (sZ S t) 0 (o_pr (sP S) p q l)), M4) := e4
    rw [(gm g).1] at e5
    rw [X11_read_P74, if_neg (by rw [show (36 : Int32) = nI 36 from rfl]; exact nI_ge (by omega) (by omega)), o_atJ (x := 0) (j := 0) rfl, o_atJ (x := 0) (j := 0) rfl, if_pos (z_ixn (by omega) (by decide)), nI_cl (n := 4 + 6 * p + 0) (by omega), z_lts, if_pos (z_ixn (by omega) (by decide)), nI_cl (n := 4 + 6 * q + 0) (by omega), z_lts, (gm g).1, tp.1, tp.2.1, e4', z_bps, e5, Option.bind_some, Option.bind_some, nI_s, Int32.add_zero, o_rd]
    cases hb : o_gt (sU S t) p (sZ S t) 0 (o_pr (sP S) p q l) with
    | true =>
      rw [hb] at e'
      rw [if_neg (by decide), if_pos rfl]
      rw [if_pos rfl] at e'
      exact e'
    | false =>
      rw [hb] at e'
      rw [if_pos (by decide), if_neg (by decide)]
      rw [if_neg (by decide)] at e'
      exact e'
theorem e_read {Γ : Zg} {sz : Nat} (g : g_Ok Γ sz) {S : Sg} (o : SO S) (a b c : Int32) : eS sz (fun M => X10_read Γ M sz a b c) (fun M => X11_read Γ M (sz + 51) a b c) S := by
  unfold X10_read X11_read
  refine eS.want g o a (fun M hM n => by rw [r_want g o hM, Option.bind_some, X11_read_P43, if_neg n]) (fun t ht ea w => ?_)
  subst ea
  have h40 := (o.2.2.2 t ht).2
  have x1 : ∀ M, X11_read_P43 Γ M (sz + 51) (nI t) b c (-1000000001) = z_bp (X11_finds Γ M (sz + 51) (-1000000001)) (fun r M => some (r, M)) := fun M => if_neg (by decide)
  have x2 : ∀ M, X11_read_P43 Γ M (sz + 51) (nI t) b c 0 = (X11_copyRow M (z_r Γ (sz + 51) 0) (z_r Γ (sz + 51) 3)).bind (fun M15 => X11_read_P74 Γ 1000 M15 (sz + 51) (nI t) b c 0 0) := fun M => if_pos rfl
  by_cases hb : o_hs (sP S) b = 0
  · refine eS.fd g o 0 (x := -1000000001) (by decide) (by decide) (fun M h => ?_) (fun M h => ?_)
    · unfold X10_areTwo
      rw [(gx g).1, c_hasS h, show (if b < 0 then (0 : Int32) else if nI (pN (sP S)) ≤ b then 0 else 1) = 0 from hb, if_pos rfl, if_pos rfl]
    · rw [r_isOneS g h, show (if b < 0 then (0 : Int32) else if nI (pN (sP S)) ≤ b then 0 else 1) = 0 from hb, if_pos rfl, x1]
  by_cases hc : o_hs (sP S) c = 0
  · refine eS.fd g o 0 (x := -1000000001) (by decide) (by decide) (fun M h => ?_) (fun M h => ?_)
    · unfold X10_areTwo
      rw [(gx g).1, c_hasS h, c_hasS h, if_neg (c := (if b < 0 then (0 : Int32) else if nI (pN (sP S)) ≤ b then 0 else 1) = 0) hb, show (if c < 0 then (0 : Int32) else if nI (pN (sP S)) ≤ c then 0 else 1) = 0 from hc, if_pos rfl, if_pos rfl]
    · rw [r_isOneS g h, r_isOneS g h, if_neg (c := (if b < 0 then (0 : Int32) else if nI (pN (sP S)) ≤ b then 0 else 1) = 0) hb, show (if c < 0 then (0 : Int32) else if nI (pN (sP S)) ≤ c then 0 else 1) = 0 from hc, if_pos rfl, x1]
  have ck : ∀ M, SC sz M S → X10_areTwo Γ M sz b c = if b = c then 0 else 1 := fun M h => by
    unfold X10_areTwo
    rw [(gx g).1, c_hasS h, c_hasS h, if_neg (c := (if b < 0 then (0 : Int32) else if nI (pN (sP S)) ≤ b then 0 else 1) = 0) hb, if_neg (c := (if c < 0 then (0 : Int32) else if nI (pN (sP S)) ≤ c then 0 else 1) = 0) hc]
  have rk1 : ∀ M, SM sz M S → ¬ X11_isOne Γ M (sz + 51) b = 0 := fun M h => by rw [r_isOneS g h]; exact hb
  have rk2 : ∀ M, SM sz M S → ¬ X11_isOne Γ M (sz + 51) c = 0 := fun M h => by rw [r_isOneS g h]; exact hc
  by_cases bc : b = c
  · exact eS.fd g o 0 (x := -1000000001) (by decide) (by decide) (fun M h => by rw [ck M h, if_pos bc, if_pos rfl]) (fun M h => by rw [if_neg (rk1 M h), if_neg (rk2 M h), if_pos bc, x1])
  refine eS.ch (fun M h => by rw [ck M h, if_neg bc, if_neg (by decide)]) (fun M h => by rw [if_neg (rk1 M h), if_neg (rk2 M h), if_neg bc, x2]) ?_
  obtain ⟨p, hp, rfl⟩ := o_hs1 o.1.1.1 hb
  obtain ⟨q, hq, rfl⟩ := o_hs1 o.1.1.1 hc
  refine ⟨o_rd (fun l => o_gt (sU S t) p (sZ S t) 0 (o_pr (sP S) p q l)) 36 0 0, S, fun M h => ?_, fun M h => ?_, o⟩
  rotate_left 1
  · obtain ⟨M1, e1, c1, f1⟩ := r_start g o h
    obtain ⟨M', e', c', f'⟩ := r_rdL g o ht hp hq 36 1000 0 0 c1 (by omega) (by omega)
    refine ⟨M', ?_, c', f1.tr f'⟩
    show ((X11_copyRow M (z_r Γ (sz + 51) 0) (z_r Γ (sz + 51) 3)).bind _) = _
    rw [e1, Option.bind_some]
    exact e'
  · obtain ⟨M', e', f'⟩ := c_rdL g o ht hp hq 36 1000 0 0 h (by omega) (by omega)
    exact ⟨M', e', h.ah o f', f_AC f'⟩
