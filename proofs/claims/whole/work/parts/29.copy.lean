theorem x8_b {M : Zm} {c d : Nat} (hcd : c ≠ d) : (∀ j, j < 6 → (X8_become M c d).1 c j = M.1 d j) ∧ (∀ e, e ≠ c → (X8_become M c d).1 e = M.1 e) ∧ (X8_become M c d).2 = M.2 := by
  refine ⟨fun j hj => ?_, fun e he => ?_, rfl⟩
  · have hj' : j = 0 ∨ j = 1 ∨ j = 2 ∨ j = 3 ∨ j = 4 ∨ j = 5 := by omega
    unfold X8_become
    simp only [z_lts, z_i_rd]
    rcases hj' with rfl | rfl | rfl | rfl | rfl | rfl <;> simp [Ne.symm hcd]
  · unfold X8_become
    simp only [z_lts]
    rw [z_i_ne he, z_i_ne he, z_i_ne he, z_i_ne he, z_i_ne he, z_i_ne he]
def o_CK (M : Zm) (a : Nat) (P : Pk) (k : Nat) : Prop := M.1 a 2 = nI (pN P) ∧ M.1 a 3 = pS P ∧ M.1 a 4 = pH P ∧ M.1 a 5 = pL P ∧ ∀ i, i < k → ∀ j, j < 6 → M.1 (a + 2 + i) j = pV P i j
theorem c_becL {Γ : Zg} {a b : Nat} (hPa : g_P Γ a) (hPb : g_P Γ b) (hd : a + 10 ≤ b ∨ b + 10 ≤ a) {P : Pk} (h8 : pN P ≤ 8) : ∀ (r f i : Nat) (M : Zm), i + r = pN P → r < f → o_C M b P → o_CK M a P i → ∃ M', X3_become_P34 Γ f M a b (nI i) = some M' ∧ o_C M' a P ∧ o_F (o_cS a) M M'
  | 0, f + 1, i, M, hi, _, hb, ha => by
    rw [X3_become_P34, ha.1, if_pos (nI_le (by omega) (by omega))]
    refine ⟨M, rfl, ?_, o_F.rf⟩
    have : i = pN P := by omega
    subst this
    exact ha
  | r + 1, f + 1, i, M, hi, hf, hb, ha => by
    rw [X3_become_P34, ha.1, if_neg (nI_ge (by omega) (by omega)), if_pos (z_ixn (by omega) (by decide)), if_pos (z_ixn (by omega) (by decide)), nI_cl (by omega), hPa.1 i (by omega), hPb.1 i (by omega), z_lts, nI_s]
    obtain ⟨g1, g2, g3⟩ := x8_b (M := M) (c := a + 2 + i) (d := b + 2 + i) (by omega)
    obtain ⟨M', e', c', f'⟩ := c_becL hPa hPb hd h8 r f (i + 1) (X8_become M (a + 2 + i) (b + 2 + i)) (by omega) (by omega) (hb.keep h8 (fun e _ _ => g2 e (by omega))) (by
      refine ⟨by rw [g2 a (by omega)]; exact ha.1, by rw [g2 a (by omega)]; exact ha.2.1, by rw [g2 a (by omega)]; exact ha.2.2.1, by rw [g2 a (by omega)]; exact ha.2.2.2.1, fun i' hi' j hj => ?_⟩
      by_cases c : i' = i
      · subst c
        rw [g1 j hj]
        exact hb.2.2.2.2 i' (by omega) j hj
      · rw [g2 _ (by omega)]
        exact ha.2.2.2.2 i' (by omega) j hj)
    refine ⟨M', e', c', o_F.tr ⟨fun e he => g2 e (fun ee => he ?_), g3⟩ f'⟩
    subst ee
    exact ⟨by omega, by omega⟩
theorem c_bec {Γ : Zg} {a b : Nat} (hPa : g_P Γ a) (hPb : g_P Γ b) (hd : a + 10 ≤ b ∨ b + 10 ≤ a) {M : Zm} {P : Pk} (h : o_C M b P) (h8 : pN P ≤ 8) : ∃ M', X3_become Γ M a b = some M' ∧ o_C M' a P ∧ o_F (o_cS a) M M' := by
  unfold X3_become
  simp only [z_lts]
  have ab : b ≠ a := by omega
  have sa : o_cS a a := ⟨Nat.le_refl _, by omega⟩
  have fr : o_F (o_cS a) M (z_i (z_i (z_i (z_i M a 2 (M.1 b 2)) a 3 ((z_i M a 2 (M.1 b 2)).1 b 3)) a 4 ((z_i (z_i M a 2 (M.1 b 2)) a 3 ((z_i M a 2 (M.1 b 2)).1 b 3)).1 b 4)) a 5 ((z_i (z_i (z_i M a 2 (M.1 b 2)) a 3 ((z_i M a 2 (M.1 b 2)).1 b 3)) a 4 ((z_i (z_i M a 2 (M.1 b 2)) a 3 ((z_i M a 2 (M.1 b 2)).1 b 3)).1 b 4)).1 b 5)) :=
    (((o_F.i sa).tr (o_F.i sa)).tr (o_F.i sa)).tr (o_F.i sa)
  obtain ⟨M', e', c', f'⟩ := c_becL hPa hPb hd h8 (pN P) 1000 0 _ (by omega) (by omega) (h.keep h8 (fun e h1 h2 => fr.1 e (fun q => by have := q.1; have := q.2; omega))) (show o_CK _ a P 0 from by
    refine ⟨?_, ?_, ?_, ?_, fun i hi => absurd hi (by omega)⟩
    · simp only [z_i_rd]; simp [ab, h.1]
    · simp only [z_i_rd]; simp [ab, h.2.1]
    · simp only [z_i_rd]; simp [ab, h.2.2.1]
    · simp only [z_i_rd]; simp [ab, h.2.2.2.1])
  exact ⟨M', e', c', fr.tr f'⟩
theorem r_copL {v w : Nat} (hvw : v ≠ w) : ∀ (r f i : Nat) (M : Zm), i + r = 52 → r < f → (∀ k, k < i → M.1 w k = M.1 v k) → ∃ M', X11_copyRow_P2 f M v w (nI i) = some M' ∧ (∀ k, k < 52 → M'.1 w k = M.1 v k) ∧ o_F (o_rS w) M M'
  | 0, f + 1, i, M, hi, _, ha => by
    have : i = 52 := by omega
    subst this
    rw [X11_copyRow_P2, if_pos (by decide)]
    exact ⟨M, rfl, ha, o_F.rf⟩
  | r + 1, f + 1, i, M, hi, hf, ha => by
    rw [X11_copyRow_P2, if_neg (by rw [show (52 : Int32) = nI 52 from rfl]; exact nI_ge (by omega) (by omega)), if_pos (z_ixn (by omega) (by decide)), if_pos (z_ixn (by omega) (by decide)), nI_cl (by omega), z_lts, nI_s]
    obtain ⟨M', e', c', f'⟩ := r_copL hvw r f (i + 1) (z_i M w i (M.1 v i)) (by omega) (by omega) (fun k hk => by
      rw [z_i_rd M w i (M.1 v i) v k, if_neg (fun q => hvw q.1), z_i_rd]
      by_cases c : k = i
      · subst c; rw [if_pos ⟨rfl, rfl⟩]
      · rw [if_neg (fun q => c q.2)]; exact ha k (by omega))
    refine ⟨M', e', fun k hk => ?_, (o_F.i (show o_rS w w from rfl)).tr f'⟩
    rw [c' k hk, z_i_rd, if_neg (fun q => hvw q.1)]
theorem r_cop {v w : Nat} (hvw : v ≠ w) {M : Zm} {P : Pk} (h : o_R M v P) (h8 : pN P ≤ 8) : ∃ M', X11_copyRow M v w = some M' ∧ o_R M' w P ∧ o_F (o_rS w) M M' := by
  obtain ⟨M', e', c', f'⟩ := r_copL hvw 52 1000 0 M (by omega) (by omega) (fun k hk => absurd hk (by omega))
  refine ⟨M', e', ⟨?_, ?_, ?_, ?_, fun i hi j hj => ?_⟩, f'⟩
  · rw [c' 0 (by decide)]; exact h.1
  · rw [c' 2 (by decide)]; exact h.2.1
  · rw [c' 1 (by decide)]; exact h.2.2.1
  · rw [c' 3 (by decide)]; exact h.2.2.2.1
  · rw [c' _ (by omega)]; exact h.2.2.2.2 i hi j hj
