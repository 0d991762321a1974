theorem c_renL {Γ : Zg} {a L : Nat} (hL : z_r Γ a 0 = L) : ∀ (r f i : Nat) (M : Zm), i + r = 40 → r < f → (∀ k, k < i → M.2 L k = 0) → ∃ M', X5_renew_P12 Γ f M a (nI i) = some M' ∧ (∀ k, k < 40 → M'.2 L k = 0) ∧ M'.1 = M.1 ∧ ∀ b, b ≠ L → M'.2 b = M.2 b
  | 0, f + 1, i, M, hi, _, hv => by
    have : i = 40 := by omega
    subst this
    rw [X5_renew_P12, if_pos (by decide)]
    exact ⟨M, rfl, hv, rfl, fun _ _ => rfl⟩
  | r + 1, f + 1, i, M, hi, hf, hv => by
    rw [X5_renew_P12, if_neg (by rw [show (40 : Int32) = nI 40 from rfl]; exact nI_ge (by omega) (by omega)), if_pos (z_ixn (by omega) (by decide)), nI_cl (by omega), hL, z_lts, nI_s]
    obtain ⟨M', e', v', i', l'⟩ := c_renL hL r f (i + 1) (z_l M L i 0) (by omega) (by omega) (fun k hk => by
      rw [z_l_rd]
      by_cases c : k = i
      · rw [if_pos ⟨rfl, c⟩]
      · rw [if_neg (fun q => c q.2)]; exact hv k (by omega))
    exact ⟨M', e', v', i'.trans (z_l_1 _ _ _ _), fun b hb => (l' b hb).trans (z_l_ne hb)⟩
theorem r_renL {Γ : Zg} {sz t : Nat} (g : g_Ok Γ sz) (ht : t < 4) : ∀ (r f i : Nat) (M : Zm), i + r = 40 → r < f → (∀ k, k < i → M.2 (sz + 60) (40 * t + k) = 0) → ∃ M', X11_sheet_P93 Γ f M (sz + 51) (nI t) (nI i) = some (M.1 (sz + 59) t, M') ∧ (∀ k, k < 40 → M'.2 (sz + 60) (40 * t + k) = 0) ∧ M'.1 = M.1 ∧ (∀ b, b ≠ sz + 60 → M'.2 b = M.2 b) ∧ ∀ s, s < 4 → s ≠ t → ∀ k, k < 40 → M'.2 (sz + 60) (40 * s + k) = M.2 (sz + 60) (40 * s + k)
  | 0, f + 1, i, M, hi, _, hv => by
    have : i = 40 := by omega
    subst this
    rw [X11_sheet_P93, if_pos (by decide), if_pos (z_ixn ht (by decide)), nI_cl (by omega), show z_r Γ (sz + 51) 9 = sz + 59 from (gm g).2.2.2.2.2.2.2.1]
    exact ⟨M, rfl, hv, rfl, fun _ _ => rfl, fun _ _ _ _ _ => rfl⟩
  | r + 1, f + 1, i, M, hi, hf, hv => by
    have ei : (40 : Int32) * nI t + nI i = nI (40 * t + i) := by
      rw [show (40 : Int32) = nI 40 from rfl, show nI 40 * nI t = nI (40 * t) from (Int32.ofNat_mul 40 t).symm, nI_add]
    rw [X11_sheet_P93, if_neg (by rw [show (40 : Int32) = nI 40 from rfl]; exact nI_ge (by omega) (by omega)), ei, if_pos (z_ixn (by omega) (by decide)), nI_cl (by omega), show z_r Γ (sz + 51) 10 = sz + 60 from (gm g).2.2.2.2.2.2.2.2, z_lts, nI_s]
    obtain ⟨M', e', v', i', l', k'⟩ := r_renL g ht r f (i + 1) (z_l M (sz + 60) (40 * t + i) 0) (by omega) (by omega) (fun k hk => by
      rw [z_l_rd]
      by_cases c : k = i
      · rw [if_pos ⟨rfl, by omega⟩]
      · rw [if_neg (by omega)]; exact hv k (by omega))
    refine ⟨M', e', v', i'.trans (z_l_1 _ _ _ _), fun b hb => (l' b hb).trans (z_l_ne hb), fun s hs hst k hk => ?_⟩
    rw [k' s hs hst k hk, z_l_rd, if_neg (by omega)]
theorem o_sh_ok {S : Sg} (o : SO S) {t : Nat} {w : Int32} {z : Nat} {u : Nat → Int64} (hw : w = 0 ∨ w = 8 ∨ w = 16 ∨ w = 64) (hz : z ≤ 40) : SO (o_sh S t w z u) := by
  refine ⟨o.1, o.2.1, o.2.2.1, fun s hs => ?_⟩
  show ((if s = t then w else sW S s) = 0 ∨ (if s = t then w else sW S s) = 8 ∨ (if s = t then w else sW S s) = 16 ∨ (if s = t then w else sW S s) = 64) ∧ (if s = t then z else sZ S s) ≤ 40
  by_cases c : s = t
  · rw [if_pos c, if_pos c]; exact ⟨hw, hz⟩
  · rw [if_neg c, if_neg c]; exact o.2.2.2 s hs
theorem c_shp {Γ : Zg} {sz : Nat} (g : g_Ok Γ sz) {S : Sg} (o : SO S) {t : Nat} (ht : t < 4) (w : Int32) {z : Nat} (hz : z ≤ 40) : cO sz (fun M => X10_sheet_P69 Γ M sz (nI t) w (nI z)) S (nI z) (o_sh S t w z (fun _ => 0)) := by
  intro M h
  have ea : z_r Γ (z_r Γ sz 5) t = sz + 41 + 2 * t := by rw [(gx g).2.2.2.2.1]; exact (gx g).2.2.2.2.2.2.2.2.1 t ht
  have eL : z_r Γ (sz + 41 + 2 * t) 0 = sz + 42 + 2 * t := (gx g).2.2.2.2.2.2.2.2.2 t ht
  obtain ⟨M', e', v', i', l'⟩ := c_renL eL 40 1000 0 (z_i (z_i M (sz + 41 + 2 * t) 1 w) (sz + 41 + 2 * t) 2 (nI z)) (by omega) (by omega) (fun k hk => absurd hk (by omega))
  have fi : ∀ b, b ≠ sz + 41 + 2 * t → M'.1 b = M.1 b := fun b hb => by rw [i', z_i_ne hb, z_i_ne hb]
  have fl : ∀ b, b ≠ sz + 42 + 2 * t → M'.2 b = M.2 b := fun b hb => by rw [l' b hb]; rfl
  refine ⟨M', ?_, SC.sh h o ht (by rw [i', z_i_rd, if_neg (by omega), z_i_rd, if_pos ⟨rfl, rfl⟩]) (by rw [i', z_i_rd, if_pos ⟨rfl, rfl⟩]) (fun k hk => v' k (by omega)) fi fl, fun b hb => ⟨fi b (by omega), fl b (by omega)⟩⟩
  show X10_sheet_P69 Γ M sz (nI t) w (nI z) = _
  unfold X10_sheet_P69 X5_renew
  rw [if_pos (z_ixn ht (by decide)), nI_cl (by omega), ea, z_lts, z_lts, show X5_renew_P12 Γ 1000 _ (sz + 41 + 2 * t) 0 = some M' from e', Option.bind_some]
theorem r_shp {Γ : Zg} {sz : Nat} (g : g_Ok Γ sz) {S : Sg} (o : SO S) {t : Nat} (ht : t < 4) {w : Int32} (hw : w = 0 ∨ w = 8 ∨ w = 16 ∨ w = 64) {z z0 : Nat} (hz : z ≤ 40) (hzz : z = if w = 0 then 0 else z0) : rO sz (fun M => X11_sheet_P74 Γ M (sz + 51) (nI t) w (nI z0) (z_r Γ (sz + 51) 8) (nI t) (if w = 0 then -1 else w)) S (nI z) (o_sh S t w z (fun _ => 0)) := by
  intro M h
  have e8 : z_r Γ (sz + 51) 8 = sz + 58 := (gm g).2.2.2.2.2.2.1
  have e9 : z_r Γ (sz + 51) 9 = sz + 59 := (gm g).2.2.2.2.2.2.2.1
  obtain ⟨M', e', v', i', l', k'⟩ := r_renL g ht 40 1000 0 (z_i (z_i M (sz + 58) t (if w = 0 then -1 else w)) (sz + 59) t (nI z)) (by omega) (by omega) (fun k hk => absurd hk (by omega))
  have fi : ∀ b, b ≠ sz + 58 → b ≠ sz + 59 → M'.1 b = M.1 b := fun b hb hc => by rw [i', z_i_ne hc, z_i_ne hb]
  have e3 : X11_sheet_P74 Γ M (sz + 51) (nI t) w (nI z0) (z_r Γ (sz + 51) 8) (nI t) (if w = 0 then -1 else w) = some (nI z, M') := by
    unfold X11_sheet_P74
    rw [if_pos (z_ixn ht (by decide)), nI_cl (by omega), z_lts, e8, e9, if_pos (z_ixn ht (by decide)), if_pos (z_ixn ht (by decide)), z_lts, z_lts]
    have ev : (z_i (z_i M (sz + 58) t (if w = 0 then -1 else w)) (sz + 59) t (nI z)).1 (sz + 59) t = nI z := by rw [z_i_rd, if_pos ⟨rfl, rfl⟩]
    rw [ev] at e'
    by_cases c : w = 0
    · rw [if_pos c] at hzz
      subst hzz
      rw [if_pos c]
      exact e'
    · rw [if_neg c] at hzz
      subst hzz
      rw [if_neg c]
      exact e'
  refine ⟨M', e3, SM.sh h ht (fun s hs => (o.2.2.2 s hs).2) hz (fun s hs => ?_) (fun s hs => ?_) (fun k hk => v' k (by omega)) (fun s hs hst k hk => by rw [k' s hs hst k hk]; rfl) fi, fun b hb => ⟨fi b (by omega) (by omega), by rw [l' b (by omega)]; rfl⟩⟩
  · rw [i', z_i_rd, if_neg (by omega), z_i_rd]
    by_cases c : s = t
    · rw [if_pos ⟨rfl, c⟩, if_pos c]
    · rw [if_neg (fun q => c q.2), if_neg c]
  · rw [i', z_i_rd]
    by_cases c : s = t
    · rw [if_pos ⟨rfl, c⟩, if_pos c]
    · rw [if_neg (fun q => c q.2), if_neg c, z_i_rd, if_neg (by omega)]
