/-! the reference reads the text into its row -/
def rY (sz n : Nat) (y : Nat → Int32) (M : Zm) (T : Tk) (P : Pk) : Prop := M.1 (sz + 51) 7 = nI n ∧ (∀ k, k < n → M.1 (sz + 57) k = y k) ∧ rTk (sz + 51) M T ∧ o_R M (sz + 52) P
def o_Z (sz : Nat) (M M' : Zm) : Prop := (∀ b, b ≠ sz + 51 → b ≠ sz + 52 → M'.1 b = M.1 b) ∧ M'.2 = M.2 ∧ M'.1 (sz + 51) 4 = M.1 (sz + 51) 4
theorem o_Z.rf {sz : Nat} {M : Zm} : o_Z sz M M := ⟨fun _ _ _ => rfl, rfl, rfl⟩
theorem o_Z.tr {sz : Nat} {M M1 M2 : Zm} (h : o_Z sz M M1) (h2 : o_Z sz M1 M2) : o_Z sz M M2 := ⟨fun b p q => (h2.1 b p q).trans (h.1 b p q), h2.2.1.trans h.2.1, h2.2.2.trans h.2.2⟩
theorem rY.pk {sz n : Nat} {y : Nat → Int32} {M M' : Zm} {T : Tk} {P P' : Pk} (h : rY sz n y M T P) (c : o_R M' (sz + 52) P') (f : o_F (o_rS (sz + 52)) M M') : rY sz n y M' T P' ∧ o_Z sz M M' := by
  have e51 : M'.1 (sz + 51) = M.1 (sz + 51) := f.1 _ (fun q => by unfold o_rS at q; omega)
  have e57 : M'.1 (sz + 57) = M.1 (sz + 57) := f.1 _ (fun q => by unfold o_rS at q; omega)
  refine ⟨⟨by rw [e51]; exact h.1, fun k hk => by rw [e57]; exact h.2.1 k hk, ?_, c⟩, fun b _ hb => f.1 b hb, f.2, by rw [e51]⟩
  unfold rTk
  rw [e51]
  exact h.2.2.1
theorem r_adY {Γ : Zg} {sz : Nat} (g : g_Ok Γ sz) {n : Nat} {y : Nat → Int32} (tp : o_tp n y) {M : Zm} {T : Tk} {P : Pk} (h : rY sz n y M T P) (k : o_kk n T) : ∃ M', X11_nextToken Γ M (sz + 51) = some M' ∧ rY sz n y M' (o_ad n y T) P ∧ o_Z sz M M' := by
  obtain ⟨M', e', c', j', f'⟩ := r_adv (y := y) (gm g).2.2.2.2.2.1 (by omega) tp.1 tp.2 (M := M) k.2.1 h.1 h.2.1 h.2.2.1.2.2.1
  have ne : ∀ b, b ≠ sz + 51 → M'.1 b = M.1 b := fun b hb => f'.1 b hb
  exact ⟨M', e', ⟨by rw [j' 7 (by omega)]; exact h.1, fun k hk => by rw [ne _ (by omega)]; exact h.2.1 k hk, c', h.2.2.2.keep (ne _ (by omega))⟩, fun b hb _ => ne b hb, f'.2, j' 4 (by omega)⟩
def o_fl (sz : Nat) (M : Zm) (T : Tk) : Zm := z_i M (sz + 51) 15 (nI (kS T))
theorem r_flE {sz n : Nat} {y : Nat → Int32} {M : Zm} {T : Tk} {P : Pk} (h : rY sz n y M T P) : X11_fails M (sz + 51) = (0, o_fl sz M T) := by
  unfold X11_fails o_fl
  rw [z_lts, h.2.2.1.2.1]
theorem r_flY {sz n : Nat} {y : Nat → Int32} {M : Zm} {T : Tk} {P : Pk} (h : rY sz n y M T P) : rY sz n y (o_fl sz M T) T P ∧ o_Z sz M (o_fl sz M T) ∧ (o_fl sz M T).1 (sz + 51) 15 = nI (kS T) := by
  have ne : ∀ b, b ≠ sz + 51 → (o_fl sz M T).1 b = M.1 b := fun b hb => z_i_ne hb
  have sl : ∀ j, j ≠ 15 → (o_fl sz M T).1 (sz + 51) j = M.1 (sz + 51) j := fun j hj => z_i_of _ _ hj _
  refine ⟨⟨by rw [sl _ (by decide)]; exact h.1, fun k hk => by rw [ne _ (by omega)]; exact h.2.1 k hk, ?_, h.2.2.2.keep (ne _ (by omega))⟩, ⟨fun b hb _ => ne b hb, rfl, sl 4 (by decide)⟩, z_i_at _ _ _ _⟩
  unfold rTk
  rw [sl _ (by decide), sl _ (by decide), sl _ (by decide), sl _ (by decide)]
  exact h.2.2.1
theorem o_fl2 (sz : Nat) (M : Zm) (T : Tk) : o_fl sz (o_fl sz M T) T = o_fl sz M T := z_i_i _ _ _ _ _
theorem r_val {sz n : Nat} {y : Nat → Int32} {M : Zm} {T : Tk} {P : Pk} (h : rY sz n y M T P) {b : Nat} (hb : b ≤ 10) (c : o_nb T b = true) : M.1 (sz + 51) 14 = nI (kV T) := by
  obtain ⟨w, hw, e, ew⟩ := h.2.2.1.2.2.2 (o_nbI.mp c).1
  have := (o_nbI.mp c).2
  rw [ew, show w = kV T by omega]
theorem r_nb {sz n : Nat} {y : Nat → Int32} {M : Zm} {T : Tk} {P : Pk} (h : rY sz n y M T P) (k : o_kk n T) {b : Nat} (hb : b + 1 ≤ 10) {x : Int32} (hx : x = nI b) : X11_isNumber M (sz + 51) 0 x = if o_nb T (b + 1) = true then (1, M) else (0, o_fl sz M T) := by
  unfold X11_isNumber
  have k3 := k.2.2.1
  rw [r_flE h, z_lps, if_pos rfl, h.2.2.1.1]
  by_cases c : kT T = 2
  · obtain ⟨w, hw, e, ew⟩ := h.2.2.1.2.2.2 c
    rw [if_pos (show nI (kT T) = (2 : Int32) from by rw [c]; rfl), ew, hx, x_in, if_neg (nI_pos (by omega))]
    by_cases d : kV T < b + 1
    · rw [if_neg (c := nI b < nI w) (nI_nlt (by omega) (by omega)), if_neg (by decide), if_pos (o_nbI.mpr ⟨c, d⟩)]
    · rw [if_pos (c := nI b < nI w) (nI_lt (by omega) (by omega)), if_pos rfl, if_neg (fun q => d (o_nbI.mp q).2)]
  · rw [if_neg (show ¬ nI (kT T) = (2 : Int32) from fun q => c ((nI_eq (a := kT T) (b := 2) (by omega) (by omega)).mp q)), if_neg (fun q => c (o_nbI.mp q).1)]
def rOut (sz n : Nat) (y : Nat → Int32) (M M' : Zm) (b : Bool) (R : Gr) : Prop := rY sz n y M' R.2.2 R.2.1 ∧ o_Z sz M M' ∧ (b = true → R.1 = true) ∧ (b = false → M'.1 (sz + 51) 15 = nI (kS R.2.2) ∧ (R.1 = false ∨ kT R.2.2 = 2))
theorem r_knL {Γ : Zg} {sz : Nat} (g : g_Ok Γ sz) {n : Nat} {y : Nat → Int32} (tp : o_tp n y) {p : Nat} : ∀ (r f i : Nat) {M : Zm} {T : Tk} {P : Pk}, i + r = 4 → r < f → rY sz n y M T P → o_kk n T → o_ok P → p < pN P → (i = 0 → o_nb T 10 = true) → ∃ M' b, X11_knowsHere_P6 Γ f M (sz + 51) (nI p) (nI i) = some (o_b1 b, M') ∧ rOut sz n y M M' b (true, o_kn n y p r P T)
  | 0, f + 1, i, M, T, P, hi, _, h, k, ok, hp, _ => by
    have k3 := k.2.2.1
    have : i = 4 := by omega
    subst this
    rw [X11_knowsHere_P6, if_neg (by decide), h.2.2.1.1]
    by_cases c : kT T = 2
    · have q := r_flY h
      refine ⟨o_fl sz M T, false, ?_, q.1, q.2.1, fun e => absurd e (by decide), fun _ => ⟨q.2.2, Or.inr c⟩⟩
      rw [if_pos (show nI (kT T) = (2 : Int32) from by rw [c]; rfl), if_pos (by decide), r_flE h, z_lps, if_pos (Or.inl rfl)]
      rfl
    · refine ⟨M, true, ?_, h, o_Z.rf, fun _ => rfl, fun e => absurd e (by decide)⟩
      rw [if_neg (show ¬ nI (kT T) = (2 : Int32) from fun q => c ((nI_eq (a := kT T) (b := 2) (by omega) (by omega)).mp q))]
      rfl
  | r + 1, f + 1, i, M, T, P, hi, hf, h, k, ok, hp, h0 => by
    have k3 := k.2.2.1
    have h8 := ok.1
    have i4 : ∀ i, i < 4 → ¬ nI i = 4 ∧ (nI i = 0 ↔ i = 0) := by decide
    rw [X11_knowsHere_P6, r_nb h k (b := 9) (by omega) (x := 9) rfl, o_kn]
    have step : o_nb T 10 = true → ∃ M' b, (if z_ix (X11_at (nI p) (1 : Int32)) 52 = true then (if z_ix (X11_at (nI p) (1 : Int32)) 52 = true then (z_lt (z_i M (z_r Γ (sz + 51) 0) ((X11_at (nI p) (1 : Int32)).toNatClampNeg) ((M.1 (z_r Γ (sz + 51) 0) ((X11_at (nI p) (1 : Int32)).toNatClampNeg)) ||| ((1 : Int32) <<< ((M.1 (sz + 51) 14) &&& 31)))) (fun M18 => (X11_nextToken Γ M18 (sz + 51)).bind (fun M21 => X11_knowsHere_P6 Γ f M21 (sz + 51) (nI p) (nI i + (1 : Int32))))) else none) else none) = some (o_b1 b, M') ∧ rOut sz n y M M' b (true, o_kn n y p r (o_kb P p (kV T)) (o_ad n y T)) := by
      intro c
      have c1 := h.2.2.2.v (i := p) (j := 1) (pV P p 1 ||| ((1 : Int32) <<< (nI (kV T) &&& 31))) hp (by decide)
      have f1 : o_F (o_rS (sz + 52)) M (z_i M (sz + 52) (4 + 6 * p + 1) (pV P p 1 ||| ((1 : Int32) <<< (nI (kV T) &&& 31)))) := o_F.i rfl
      obtain ⟨h1, z1⟩ := h.pk c1 f1
      obtain ⟨M2, e2, h2, z2⟩ := r_adY g tp h1 k
      obtain ⟨M', b, e', h', z', t', q'⟩ := r_knL g tp (p := p) r f (i + 1) (by omega) (by omega) h2 (o_ad_ok y k).1 (o_kb_ok ok hp (o_nbI.mp c).2) hp (fun q => absurd q (by omega))
      refine ⟨M', b, ?_, h', (z1.tr z2).tr z', t', q'⟩
      rw [o_atJ (x := 1) (j := 1) rfl, if_pos (z_ixn (by omega) (by decide)), if_pos (z_ixn (by omega) (by decide)), nI_cl (n := 4 + 6 * p + 1) (by omega), (gm g).1, h.2.2.2.2.2.2.2 p hp 1 (by decide), r_val h (b := 10) (by omega) c, z_lts, e2, Option.bind_some, nI_s]
      exact e'
    by_cases c : o_nb T 10 = true
    · rw [if_pos c, if_pos c]
      obtain ⟨M', b, e', w'⟩ := step c
      refine ⟨M', b, ?_, w'⟩
      by_cases z : i = 0
      · rw [if_pos ((i4 i (by omega)).2.mpr z), if_neg (i4 i (by omega)).1, z_lps, if_neg (by decide)]
        exact e'
      · rw [if_neg (fun q => z ((i4 i (by omega)).2.mp q)), h.2.2.1.1, if_pos (show nI (kT T) = (2 : Int32) from by rw [(o_nbI.mp c).1]; rfl), if_neg (i4 i (by omega)).1, z_lps, if_neg (by decide)]
        exact e'
    · have z : ¬ i = 0 := fun q => c (h0 q)
      rw [if_neg c, if_neg c, if_neg (c := nI i = 0) (fun q => z ((i4 i (by omega)).2.mp q)), h.2.2.1.1]
      by_cases d : kT T = 2
      · have q := r_flY h
        refine ⟨o_fl sz M T, false, ?_, q.1, q.2.1, fun e => absurd e (by decide), fun _ => ⟨q.2.2, Or.inr d⟩⟩
        rw [if_pos (show nI (kT T) = (2 : Int32) from by rw [d]; rfl), if_neg (i4 i (by omega)).1, z_lps, if_pos rfl, r_flE q.1, z_lps, if_pos (Or.inl rfl), o_fl2]
        rfl
      · refine ⟨M, true, ?_, h, o_Z.rf, fun _ => rfl, fun e => absurd e (by decide)⟩
        rw [if_neg (show ¬ nI (kT T) = (2 : Int32) from fun q => d ((nI_eq (a := kT T) (b := 2) (by omega) (by omega)).mp q))]
        rfl
theorem r_known {Γ : Zg} {sz : Nat} (g : g_Ok Γ sz) {n : Nat} {y : Nat → Int32} (tp : o_tp n y) {p : Nat} {M : Zm} {T : Tk} {P : Pk} (h : rY sz n y M T P) (k : o_kk n T) (ok : o_ok P) (hp : p < pN P) : ∃ M' b, X11_knowsHere Γ M (sz + 51) (nI p) = some (o_b1 b, M') ∧ rOut sz n y M M' b (o_known n y p P T) := by
  obtain ⟨M1, e1, h1, z1⟩ := r_adY g tp h k
  have k1 := (o_ad_ok y k).1
  unfold X11_knowsHere o_known
  rw [e1, Option.bind_some]
  by_cases c : o_nb (o_ad n y T) 10 = true
  · rw [if_pos c]
    obtain ⟨M', b, e', h', z', t', q'⟩ := r_knL g tp (p := p) 4 1000 0 (by omega) (by omega) h1 k1 ok hp (fun _ => c)
    exact ⟨M', b, e', h', z1.tr z', t', q'⟩
  · rw [if_neg c]
    have q := r_flY h1
    refine ⟨o_fl sz M1 (o_ad n y T), false, ?_, q.1, z1.tr q.2.1, fun e => absurd e (by decide), fun _ => ⟨q.2.2, Or.inl rfl⟩⟩
    rw [X11_knowsHere_P6, if_pos rfl, if_neg (by decide), r_nb h1 k1 (b := 9) (by omega) (x := 9) rfl, if_neg c, z_lps, if_pos rfl, r_flE q.1, z_lps, if_pos (Or.inl rfl), o_fl2]
    rfl
theorem r_v33 {Γ : Zg} {sz : Nat} (g : g_Ok Γ sz) {n : Nat} {y : Nat → Int32} (tp : o_tp n y) {p : Nat} {M : Zm} {T : Tk} {P : Pk} (h : rY sz n y M T P) (k : o_kk n T) (ok : o_ok P) (hp : p < pN P) (h4 : pV P p 4 = 0) : ∃ M' b, X11_personHere_P61 Γ M (sz + 51) (nI p) = some (o_b1 b, M') ∧ rOut sz n y M M' b (o_v33 n y p P T) := by
  unfold X11_personHere_P61 o_v33
  have k1 := (o_ad_ok y k).1
  have h8 := ok.1
  rw [r_two (gm g).2.2.2.2.2.1 tp.1 h.1 h.2.1 h.2.2.1 k.1 k.2.1 k.2.2.1]
  by_cases c : o_isw y T 7 = true
  · rw [if_pos c, if_pos c]
    obtain ⟨M1, e1, h1, z1⟩ := r_adY g tp h k
    rw [e1, Option.bind_some, r_nb h1 k1 (b := 1) (by omega) (x := 1) rfl]
    unfold o_seat
    by_cases d : o_nb (o_ad n y T) 2 = true
    · have hv := (o_nbI.mp d).2
      rw [if_pos (c := o_nb (o_ad n y T) (1 + 1) = true) d, z_lps, if_neg (by decide), r_val h1 (b := 2) (by omega) d, r_hold (gm g).1 h1.2.2.2 ok.1, Option.bind_some]
      have ng := (o_oI_neg ok.1 (x := o_hd P (nI (kV (o_ad n y T)))) (fun i hi => (o_hd_some hi).1)).1
      by_cases e : o_hd P (nI (kV (o_ad n y T))) = none
      · rw [if_pos (ng.mpr e), if_pos (c := o_nb (o_ad n y T) 2 = true ∧ o_hd P (nI (kV (o_ad n y T))) = none) ⟨d, e⟩]
        have c2 := h1.2.2.2.v (i := p) (j := 3) (nI (kV (o_ad n y T))) hp (by decide)
        have f2 : o_F (o_rS (sz + 52)) M1 (z_i M1 (sz + 52) (4 + 6 * p + 3) (nI (kV (o_ad n y T)))) := o_F.i rfl
        have eE : o_E (p_v P p 3 (nI (kV (o_ad n y T)))) (o_sd P p (kV (o_ad n y T))) := o_E.sy (p_v_id _ (by rw [pV_v, if_neg (by omega)]; exact h4.symm))
        obtain ⟨h2, z2⟩ := h1.pk (c2.E eE) f2
        obtain ⟨M3, e3, h3, z3⟩ := r_adY g tp h2 k1
        refine ⟨M3, true, ?_, h3, (z1.tr z2).tr z3, fun _ => rfl, fun e => absurd e (by decide)⟩
        rw [o_atJ (x := 3) (j := 3) rfl, if_pos (z_ixn (by omega) (by decide)), nI_cl (by omega), (gm g).1, z_lts, e3, Option.bind_some]
        rfl
      · have q := r_flY h1
        rw [if_neg (fun q => e (ng.mp q)), if_neg (fun q => e q.2)]
        refine ⟨o_fl sz M1 (o_ad n y T), false, ?_, q.1, z1.tr q.2.1, fun e => absurd e (by decide), fun _ => ⟨q.2.2, Or.inl rfl⟩⟩
        rw [r_flE h1, z_lps, if_pos (Or.inl rfl)]
        rfl
    · have q := r_flY h1
      rw [if_neg (c := o_nb (o_ad n y T) (1 + 1) = true) d, if_neg (fun q => d q.1), z_lps, if_pos rfl]
      refine ⟨o_fl sz M1 (o_ad n y T), false, ?_, q.1, z1.tr q.2.1, fun e => absurd e (by decide), fun _ => ⟨q.2.2, Or.inl rfl⟩⟩
      rw [r_flE q.1, z_lps, if_pos (Or.inl rfl), o_fl2]
      rfl
  · rw [if_neg c, if_neg c]
    exact ⟨M, true, rfl, h, o_Z.rf, fun _ => rfl, fun e => absurd e (by decide)⟩
theorem r_visT {Γ : Zg} {sz : Nat} (g : g_Ok Γ sz) {n : Nat} {y : Nat → Int32} (tp : o_tp n y) {q : Nat} (hq : q < 6) {M : Zm} {T : Tk} {P : Pk} (h : rY sz n y M T P) (k : o_kk n T) (ok : o_ok P) : ∃ M' b, X11_personHere Γ M (sz + 51) (nI q) = some (o_b1 b, M') ∧ rOut sz n y M M' b (o_item1 n y P T q) := by
  have h8 := ok.1
  have e8 : ∀ n, n ≤ 8 → (nI n = 8 ↔ ¬ n < 8) := by decide
  unfold X11_personHere o_item1
  rw [(gm g).1, h.2.2.2.1]
  by_cases c8 : pN P < 8
  · rw [if_neg (fun q => (e8 _ h8).mp q c8), if_pos c8]
    obtain ⟨M1, e1, c1, f1⟩ := r_com (gm g).1 h.2.2.2 c8 (nI q)
    obtain ⟨h1, z1⟩ := h.pk c1 f1
    have ok1 := o_new_ok ok c8 hq
    have hp : pN P < pN (o_new P (nI q)) := Nat.lt_succ_self _
    obtain ⟨M2, e2, h2, z2⟩ := r_adY g tp h1 k
    have k2 := (o_ad_ok y k).1
    have v4 : pV (o_new P (nI q)) (pN P) 4 = 0 := by
      show (if pN P = pN P then _ else _) = _
      rw [if_pos rfl]
      rfl
    have eN : M1.1 (sz + 52) 0 - 1 = nI (pN P) := by
      rw [c1.1]
      exact nI_pred _
    have e5 : X11_isFive Γ M2 (sz + 51) 107 110 111 119 115 = some (o_b1 (o_isw y (o_ad n y T) 6)) := r_five (gm g).2.2.2.2.2.1 tp.1 h2.1 h2.2.1 h2.2.2.1 k2.1 k2.2.1 k2.2.2.1 6 rfl
    unfold o_vis
    rw [e1, Option.bind_some, e2, Option.bind_some, e5, Option.bind_some, eN]
    by_cases c : o_isw y (o_ad n y T) 6 = true
    · rw [if_neg (fun q => o_b1z.mp q c), if_pos c]
      obtain ⟨M3, b3, e3, h3, z3, t3, q3⟩ := r_known g tp (p := pN P) h2 k2 ok1 hp
      have gk := o_known_ok y (n := n) ok1 hp k2
      rw [e3, z_bps]
      cases b3 with
      | true =>
        have d := t3 rfl
        rw [if_neg (by decide), if_pos d]
        obtain ⟨M4, b4, e4, h4, z4, t4, q4⟩ := r_v33 g tp (p := pN P) h3 gk.1.1 gk.1.2.2.1 (by rw [gk.2.1]; exact hp) (gk.2.2.trans v4)
        exact ⟨M4, b4, e4, h4, ((z1.tr z2).tr z3).tr z4, t4, q4⟩
      | false =>
        rw [if_pos (by decide)]
        refine ⟨M3, false, rfl, ?_⟩
        by_cases d : (o_known n y (pN P) (o_new P (nI q)) (o_ad n y T)).1 = true
        · rw [if_pos d]
          have kt : kT (o_known n y (pN P) (o_new P (nI q)) (o_ad n y T)).2.2 = 2 := (q3 rfl).2.resolve_left (fun e => by rw [d] at e; exact absurd e (by decide))
          have e33 : o_v33 n y (pN P) (o_known n y (pN P) (o_new P (nI q)) (o_ad n y T)).2.1 (o_known n y (pN P) (o_new P (nI q)) (o_ad n y T)).2.2 = (true, (o_known n y (pN P) (o_new P (nI q)) (o_ad n y T)).2.1, (o_known n y (pN P) (o_new P (nI q)) (o_ad n y T)).2.2) := by
            unfold o_v33
            rw [if_neg (fun e => by have := (o_iswI.mp e).1; omega)]
          rw [e33]
          exact ⟨h3, (z1.tr z2).tr z3, fun e => absurd e (by decide), fun _ => ⟨(q3 rfl).1, Or.inr kt⟩⟩
        · rw [if_neg d]
          exact ⟨h3, (z1.tr z2).tr z3, fun e => absurd e (by decide), q3⟩
    · rw [if_pos (o_b1z.mpr c), if_neg c]
      obtain ⟨M4, b4, e4, h4, z4, t4, q4⟩ := r_v33 g tp (p := pN P) h2 k2 ok1 hp v4
      exact ⟨M4, b4, e4, h4, (z1.tr z2).tr z4, t4, q4⟩
  · rw [if_pos ((e8 _ h8).mpr c8), if_neg c8]
    have w := r_flY h
    refine ⟨o_fl sz M T, false, ?_, w.1, w.2.1, fun e => absurd e (by decide), fun _ => ⟨w.2.2, Or.inl rfl⟩⟩
    rw [r_flE h, z_lps, if_pos (Or.inl rfl)]
    rfl
theorem r_scr {Γ : Zg} {sz : Nat} (g : g_Ok Γ sz) {n : Nat} {y : Nat → Int32} (tp : o_tp n y) (s : Bool) {M : Zm} {T : Tk} {P : Pk} (h : rY sz n y M T P) (k : o_kk n T) : ∃ M' b, X11_secretHere Γ M (sz + 51) (o_b1 s) = some (o_b1 b, M') ∧ rOut sz n y M M' b (o_scr n y s P T) := by
  obtain ⟨M1, e1, h1, z1⟩ := r_adY g tp h k
  have k1 := (o_ad_ok y k).1
  unfold X11_secretHere o_scr
  rw [e1, Option.bind_some, r_nb h1 k1 (b := 9) (by omega) (x := 9) rfl]
  by_cases c : o_nb (o_ad n y T) 10 = true
  · rw [if_pos (c := o_nb (o_ad n y T) (9 + 1) = true) c, if_pos c, z_lps, if_neg (by decide), r_val h1 (b := 10) (by omega) c, (gm g).1, h1.2.2.2.2.1]
    cases s with
    | true =>
      rw [if_neg (by decide)]
      have c2 := h1.2.2.2.s (pS P ||| ((1 : Int32) <<< (nI (kV (o_ad n y T)) &&& 31)))
      have f2 : o_F (o_rS (sz + 52)) M1 (z_i M1 (sz + 52) 2 (pS P ||| ((1 : Int32) <<< (nI (kV (o_ad n y T)) &&& 31)))) := o_F.i rfl
      obtain ⟨h2, z2⟩ := h1.pk c2 f2
      obtain ⟨M3, e3, h3, z3⟩ := r_adY g tp h2 k1
      refine ⟨M3, true, ?_, h3, (z1.tr z2).tr z3, fun _ => rfl, fun e => absurd e (by decide)⟩
      rw [z_lts, e3, Option.bind_some]
      rfl
    | false =>
      rw [if_pos (by decide)]
      have c2 := h1.2.2.2.s (pS P &&& (((1 : Int32) <<< (nI (kV (o_ad n y T)) &&& 31)) ^^^ (-1)))
      have f2 : o_F (o_rS (sz + 52)) M1 (z_i M1 (sz + 52) 2 (pS P &&& (((1 : Int32) <<< (nI (kV (o_ad n y T)) &&& 31)) ^^^ (-1)))) := o_F.i rfl
      obtain ⟨h2, z2⟩ := h1.pk c2 f2
      obtain ⟨M3, e3, h3, z3⟩ := r_adY g tp h2 k1
      refine ⟨M3, true, ?_, h3, (z1.tr z2).tr z3, fun _ => rfl, fun e => absurd e (by decide)⟩
      rw [z_lts, e3, Option.bind_some]
      rfl
  · have q := r_flY h1
    rw [if_neg (c := o_nb (o_ad n y T) (9 + 1) = true) c, if_neg c, z_lps, if_pos rfl]
    exact ⟨o_fl sz M1 (o_ad n y T), false, rfl, q.1, z1.tr q.2.1, fun e => absurd e (by decide), fun _ => ⟨q.2.2, Or.inl rfl⟩⟩
theorem r_item {Γ : Zg} {sz : Nat} (g : g_Ok Γ sz) {n : Nat} {y : Nat → Int32} (tp : o_tp n y) {M : Zm} {T : Tk} {P : Pk} (h : rY sz n y M T P) (k : o_kk n T) (ok : o_ok P) : ∃ M' b, X11_itemHere Γ M (sz + 51) = some (o_b1 b, M') ∧ rOut sz n y M M' b (o_item n y P T) := by
  unfold X11_itemHere
  rw [r_kind (gm g).2.2.2.2.2.1 tp.1 h.1 h.2.1 h.2.2.1 k.1 k.2.1 k.2.2.1, Option.bind_some]
  cases kd : o_kd y T with
  | none =>
    have e8 : X11_isFour Γ M (sz + 51) 115 104 97 109 = some (o_b1 (o_isw y T 8)) := r_four (gm g).2.2.2.2.2.1 tp.1 h.1 h.2.1 h.2.2.1 k.1 k.2.1 k.2.2.1 8 rfl
    have e9 : X11_isFour Γ M (sz + 51) 116 114 117 101 = some (o_b1 (o_isw y T 9)) := r_four (gm g).2.2.2.2.2.1 tp.1 h.1 h.2.1 h.2.2.1 k.1 k.2.1 k.2.2.1 9 rfl
    rw [o_itemE.1 kd, if_pos (by decide), e8, Option.bind_some, e9]
    unfold o_item0
    by_cases c : o_isw y T 8 = true
    · rw [if_neg (fun q => o_b1z.mp q c), if_pos c]
      obtain ⟨M', b, e', w'⟩ := r_scr g tp true h k
      refine ⟨M', b, ?_, w'⟩
      rw [c, e', z_bps]
      exact o_b1r M'
    · rw [if_pos (o_b1z.mpr c), if_neg c, Option.bind_some]
      by_cases d : o_isw y T 9 = true
      · rw [if_neg (fun q => o_b1z.mp q d), if_pos d]
        obtain ⟨M', b, e', w'⟩ := r_scr g tp false h k
        refine ⟨M', b, ?_, w'⟩
        rw [show o_isw y T 8 = false from Bool.eq_false_iff.mpr c, e', z_bps]
        exact o_b1r M'
      · rw [if_pos (o_b1z.mpr d), if_neg d]
        have q := r_flY h
        refine ⟨o_fl sz M T, false, ?_, q.1, q.2.1, fun e => absurd e (by decide), fun _ => ⟨q.2.2, Or.inl rfl⟩⟩
        rw [r_flE h, z_lps, if_pos (Or.inl rfl)]
        rfl
  | some q =>
    have hq := o_kd_lt kd
    rw [o_itemE.2 q kd, show o_oI (some q) = nI q from rfl, if_neg (nI_pos (by omega))]
    obtain ⟨M', b, e', w'⟩ := r_visT g tp hq h k ok
    refine ⟨M', b, ?_, w'⟩
    rw [e', z_bps]
    exact o_b1r M'
