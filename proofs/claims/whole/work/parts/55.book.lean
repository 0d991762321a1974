/-! book: what one knows hour by hour comes to a sheet -/
def o_bk (t p : Nat) : Nat → Nat → Pk → Sg → Sg
  | 0, _, _, S => S
  | r + 1, i, Q, S => o_bk t p r (i + 1) (o_hr Q) (o_pt S t i (pV Q p 1).toInt64)
theorem o_pt_z (S : Sg) (t k : Nat) (v : Int64) : sZ (o_pt S t k v) t = sZ S t ∧ sW (o_pt S t k v) t = sW S t := ⟨if_pos rfl, if_pos rfl⟩
theorem o_bk_ok {t p : Nat} (ht : t < 4) : ∀ (r i : Nat) (Q : Pk) {S : Sg}, SO S → SO (o_bk t p r i Q S)
  | 0, _, _, _, o => o
  | r + 1, i, Q, S, o => o_bk_ok ht r (i + 1) (o_hr Q) (o_pt_ok o ht)
theorem r_putQ {sz : Nat} {S : Sg} {Q : Pk} (o : SO S) {M : Zm} (h : SM sz M (uP S Q)) {t k : Nat} (ht : t < 4) (hk : k < sZ S t) (v : Int64) : SM sz (z_l M (sz + 60) (40 * t + k) (o_cut (sW S t) v)) (uP (o_pt S t k v) Q) ∧ fR sz M (z_l M (sz + 60) (40 * t + k) (o_cut (sW S t) v)) := by
  have h40 := (o.2.2.2 t ht).2
  have hs := h.2.2.2.1 t ht
  have C : SM sz (z_l M (sz + 60) (40 * t + k) (o_cut (sW S t) v)) (o_sh (uP S Q) t (sW S t) (sZ S t) (o_upd (sU S t) k (o_cut (sW S t) v))) := by
    refine SM.sh h ht (fun s hs => (o.2.2.2 s hs).2) h40 (fun s hs2 => ?_) (fun s hs2 => ?_) (fun j hj => ?_) (fun s hs2 hst j hj => ?_) (fun b _ _ => rfl)
    · by_cases c : s = t
      · rw [if_pos c, c]; exact hs.1
      · rw [if_neg c]; rfl
    · by_cases c : s = t
      · rw [if_pos c, c]; exact hs.2.1
      · rw [if_neg c]; rfl
    · rw [z_l_rd]
      show _ = if j = k then _ else _
      by_cases c : j = k
      · rw [if_pos ⟨rfl, by omega⟩, if_pos c]
      · rw [if_neg (by omega), if_neg c]
        exact hs.2.2 j hj
    · rw [z_l_rd, if_neg (by omega)]
  exact ⟨C, fun b hb => ⟨rfl, z_l_ne (by omega)⟩⟩
theorem c_bookL {Γ : Zg} {sz : Nat} (g : g_Ok Γ sz) {t p : Nat} (ht : t < 4) : ∀ (r f i : Nat) {Q : Pk} {S : Sg} {M : Zm}, SC sz M S → SO S → o_C M (sz + 18) Q → o_ok Q → p < pN Q → i + r = sZ S t → r < f → ∃ M', X10_book_P56 Γ f M sz (nI p) (sz + 41 + 2 * t) (nI i) = some (nI (sZ S t), M') ∧ SC sz M' (o_bk t p r i Q S) ∧ fC sz M M'
  | 0, f + 1, i, Q, S, M, h, o, hc, ok, hp, hi, _ => by
    have h40 := (o.2.2.2 t ht).2
    refine ⟨M, ?_, h, fC.rf⟩
    rw [X10_book_P56, (h.2.2.2.1 t ht).2.1, if_pos (nI_le (by omega) (by omega))]
  | r + 1, f + 1, i, Q, S, M, h, o, hc, ok, hp, hi, hf => by
    have h40 := (o.2.2.2 t ht).2
    have h8 := ok.1
    obtain ⟨M1, e1, c1, i1, f1⟩ := c_put g o h ht (k := i) (by omega) (pV Q p 1).toInt64
    have d1 : o_C M1 (sz + 18) Q := hc.keep h8 (fun b _ _ => by rw [i1])
    obtain ⟨M2, e2, c2, f2⟩ := c_go18 g d1 ok (n := 1) (by decide)
    have o1 : SO (o_pt S t i (pV Q p 1).toInt64) := o_pt_ok o ht
    have C2 := c1.ah o1 (f_18 f2)
    have z := (o_pt_z S t i (pV Q p 1).toInt64).1
    obtain ⟨M', e', c', f'⟩ := c_bookL g ht r f (i + 1) C2 o1 c2 (o_hr_ok ok) (by show p < pN (o_hr Q); rw [(o_hr_E ok).1]; exact hp) (by rw [z]; omega) (by omega)
    refine ⟨M', ?_, c', (f1.tr (f_AC (f_18 f2))).tr f'⟩
    rw [X10_book_P56, (h.2.2.2.1 t ht).2.1, if_neg (nI_ge (by omega) (by omega)), c_visA g (by omega), Option.bind_some, hc.2.2.2.2 p hp 1 (by decide), e1, z_bps, show (1 : Int32) = nI 1 from rfl, e2, Option.bind_some, nI_add, ← z]
    exact e'
theorem r_bookL {Γ : Zg} {sz : Nat} (g : g_Ok Γ sz) {t p : Nat} (ht : t < 4) : ∀ (r f i : Nat) {Q : Pk} {S : Sg} {M : Zm}, rA sz S M Q → SO S → ¬ sW S t = 0 → o_ok Q → p < pN Q → i + r = sZ S t → r < f → ∃ M', X11_book_P55 Γ f M (sz + 51) (nI t) (nI p) (nI i) = some (nI (sZ S t), M') ∧ SM sz M' (o_bk t p r i Q S) ∧ fR sz M M'
  | 0, f + 1, i, Q, S, M, h, o, w, ok, hp, hi, _ => by
    have h40 := (o.2.2.2 t ht).2
    have hs : M.1 (z_r Γ (sz + 51) 9) t = nI (sZ S t) := by rw [(gm g).2.2.2.2.2.2.2.1]; exact (h.1.2.2.2.1 t ht).2.1
    obtain ⟨M1, e1, c1, c2, f1⟩ := r_back g o h
    have hs1 : M1.1 (z_r Γ (sz + 51) 9) t = nI (sZ S t) := by rw [(gm g).2.2.2.2.2.2.2.1]; exact (c2.2.2.2.1 t ht).2.1
    refine ⟨M1, ?_, c2, f1⟩
    rw [X11_book_P55, if_pos (z_ixn ht (by decide)), nI_cl (n := t) (by omega), hs, if_pos (nI_le (by omega) (by omega)), e1, Option.bind_some, if_pos (z_ixn ht (by decide)), hs1]
  | r + 1, f + 1, i, Q, S, M, h, o, w, ok, hp, hi, hf => by
    have h40 := (o.2.2.2 t ht).2
    have h8 := ok.1
    have hs : M.1 (z_r Γ (sz + 51) 9) t = nI (sZ S t) := by rw [(gm g).2.2.2.2.2.2.2.1]; exact (h.1.2.2.2.1 t ht).2.1
    have hb : M.1 (z_r Γ (sz + 51) 8) t = (if sW S t = 0 then -1 else sW S t) := by rw [(gm g).2.2.2.2.2.2.1]; exact (h.1.2.2.2.1 t ht).1
    have oQ : SO (o_pt S t i (pV Q p 1).toInt64) := o_pt_ok o ht
    have P1 := r_putQ (Q := Q) o h.1 ht (k := i) (by omega) (pV Q p 1).toInt64
    have A1 : rA sz (o_pt S t i (pV Q p 1).toInt64) (z_l M (sz + 60) (40 * t + i) (o_cut (sW S t) (pV Q p 1).toInt64)) Q := ⟨P1.1, h.2⟩
    obtain ⟨M2, e2, c2, f2⟩ := r_onA g A1 ok
    have z := (o_pt_z S t i (pV Q p 1).toInt64).1
    obtain ⟨M', e', c', f'⟩ := r_bookL g ht r f (i + 1) c2 oQ (by rw [(o_pt_z S t i (pV Q p 1).toInt64).2]; exact w) (o_hr_ok ok) (by rw [(o_hr_E ok).1]; exact hp) (by rw [z]; omega) (by omega)
    refine ⟨M', ?_, c', (P1.2.tr f2).tr f'⟩
    have it : X11_its Γ M (sz + 51) (nI p) 1 = some (pV Q p 1) := r_its (x := 1) (gm g).1 h.1.1 h8 hp (j := 1) rfl (by decide)
    rw [X11_book_P55, if_pos (z_ixn ht (by decide)), nI_cl (n := t) (by omega), hs, if_neg (nI_ge (by omega) (by omega)), if_pos (z_ixn ht (by decide)), it, Option.bind_some, o_40, if_pos (z_ixn (by omega) (by decide)), nI_cl (by omega), hb, x_narrow w, (gm g).2.2.2.2.2.2.2.2, z_lts, e2, Option.bind_some, nI_s, ← z]
    exact e'
theorem e_book {Γ : Zg} {sz : Nat} (g : g_Ok Γ sz) {S : Sg} (o : SO S) (a b : Int32) : eS sz (fun M => X10_book Γ M sz a b) (fun M => X11_book Γ M (sz + 51) a b) S := by
  unfold X10_book X11_book
  refine eS.want g o a (fun M hM n => by rw [r_want g o hM, Option.bind_some, X11_book_P30, if_neg n]) (fun t ht ea w => ?_)
  subst ea
  refine eS.ch (fun _ _ => rfl) (fun M _ => by rw [show X11_book_P30 Γ M (sz + 51) (nI t) b (-1000000001) = z_bp (X11_finds Γ M (sz + 51) (-1000000001)) (fun r M => some (r, M)) from if_neg (by decide), show X11_book_P30 Γ M (sz + 51) (nI t) b 0 = (X11_copyRow M (z_r Γ (sz + 51) 0) (z_r Γ (sz + 51) 3)).bind (fun M11 => X11_book_P55 Γ 1000 M11 (sz + 51) (nI t) b 0) from if_pos rfl]) ?_
  refine eS.has g o b (fun p hp eb => ?_)
  subst eb
  have ok := o.1.1
  have h40 := (o.2.2.2 t ht).2
  refine ⟨nI (sZ S t), o_bk t p (sZ S t) 0 (sP S) S, fun M h => ?_, fun M h => ?_, o_bk_ok ht _ _ _ o⟩
  · obtain ⟨M1, e1, c1, f1⟩ := c_ahead g o h
    obtain ⟨M', e', c', f'⟩ := c_bookL g ht (sZ S t) 1000 0 (h.ah o f1) o c1 ok hp (by omega) (by omega)
    refine ⟨M', ?_, c', (f_AC f1).tr f'⟩
    show (if z_ix (nI t) 4 = true then _ else none) = _
    rw [if_pos (z_ixn ht (by decide)), nI_cl (by omega), c_sha g ht, e1, Option.bind_some]
    exact e'
  · obtain ⟨M1, e1, c1, f1⟩ := r_start g o h
    obtain ⟨M', e', c', f'⟩ := r_bookL g ht (sZ S t) 1000 0 c1 o w ok hp (by omega) (by omega)
    refine ⟨M', ?_, c', f1.tr f'⟩
    show ((X11_copyRow M (z_r Γ (sz + 51) 0) (z_r Γ (sz + 51) 3)).bind _) = _
    rw [e1, Option.bind_some]
    exact e'
