/-! the reference's hour's end -/
theorem o_sitk_v (P : Pk) (k i j : Nat) : pV (o_sitk P k) i j = if i < k then o_sitv P i j else pV P i j := rfl
theorem o_sitk_E {P Q : Pk} {k : Nat} (hQ : pN Q = pN P ∧ pH Q = pH P ∧ pS Q = pS P ∧ pL Q = pL P) (h : ∀ i j, pV Q i j = if i = k then o_sitv P k j else pV (o_sitk P k) i j) : o_E Q (o_sitk P (k + 1)) := by
  refine ⟨hQ.1, hQ.2.1, hQ.2.2.1, hQ.2.2.2, fun i _ j _ => ?_⟩
  rw [h, o_sitk_v, o_sitk_v]
  by_cases e : i = k
  · subst e; rw [if_pos rfl, if_pos (Nat.lt_succ_self _)]
  · rw [if_neg e]
    by_cases c : i < k
    · rw [if_pos c, if_pos (by omega)]
    · rw [if_neg c, if_neg (by omega)]
/-- the reference's loop over all that sit; what follows it is K -/
theorem r_sit {Γ : Zg} {m w : Nat} {P : Pk} {M0 : Zm} (hm : z_r Γ m 0 = w) (ok : o_ok P) {Rs : Option Zm → Prop} (K : ∀ (M : Zm) (x : Int32), o_R M w (o_sit P) → o_G x (fun i => decide (i < pN P) && o_gone P i) → o_F (o_rS w) M0 M → Rs (X11_goesOn_P166 Γ 1000 M m x 0)) :
    ∀ f k M x, k ≤ pN P → pN P - k < f → o_R M w (o_sitk P k) → o_G x (fun i => decide (i < k) && o_gone P i) → o_ok (o_sitk P k) → o_F (o_rS w) M0 M → Rs (X11_goesOn_P74 Γ f M m x (nI k)) := by
  have h8 := ok.1
  intro f
  induction f with
  | zero => intro k M x _ h; omega
  | succ f ih =>
    intro k M x hk hf h hg okk hfr
    rw [X11_goesOn_P74, hm, show M.1 w 0 = nI (pN P) from h.1]
    by_cases e : k = pN P
    · rw [if_pos (nI_le (by omega) (by omega))]
      refine K M x (h.E ⟨rfl, rfl, rfl, rfl, fun i hi j _ => ?_⟩) (by rw [← e]; exact hg) hfr
      have hi : i < pN P := hi
      rw [o_sitk_v, if_pos (by omega)]
      rfl
    · have hlt : k < pN P := by omega
      have hltk : k < pN (o_sitk P k) := hlt
      have hvk : ∀ j, pV (o_sitk P k) k j = pV P k j := fun j => by rw [o_sitk_v, if_neg (by omega)]
      rw [if_neg (nI_ge hlt (by omega)), r_its (x := 3) hm h h8 hltk (j := 3) rfl (by decide), Option.bind_some, hvk, nI_s]
      have est : o_st (o_sitk P k) k = o_st P k := by unfold o_st; rw [hvk, hvk]
      by_cases cs : pV P k 3 = -1
      · rw [if_pos (by rw [cs]; decide)]
        refine ih (k + 1) M x (by omega) (by omega) (h.E (o_sitk_E ⟨rfl, rfl, rfl, rfl⟩ (fun i j => ?_))) (hg.cong (fun p _ => ?_)) (okk.E (o_sitk_E ⟨rfl, rfl, rfl, rfl⟩ (fun i j => ?_))) hfr
        · by_cases e2 : i = k
          · subst e2; rw [if_pos rfl, hvk]; unfold o_sitv; rw [if_pos cs]
          · rw [if_neg e2]
        · by_cases e2 : p = k
          · subst e2; unfold o_gone; simp [cs]
          · by_cases c : p < k
            · simp [c, show p < k + 1 by omega]
            · simp [c, show ¬ p < k + 1 by omega]
        · by_cases e2 : i = k
          · subst e2; rw [if_pos rfl, hvk]; unfold o_sitv; rw [if_pos cs]
          · rw [if_neg e2]
      · have hs01 : ¬ pV P k 3 < 0 := by
          rcases (ok.2.2.2.1 k hlt).2.2.2.1 with e3 | e3 | e3
          · exact absurd e3 cs
          · rw [e3]; decide
          · rw [e3]; decide
        rw [if_neg hs01, o_atJ (x := 4) (j := 4) rfl, o_atJ (x := 3) (j := 3) rfl, if_pos (z_ixn (by omega) (by decide)), if_pos (z_ixn (by omega) (by decide)), nI_cl (by omega), h.2.2.2.2 k hltk 4 (by decide), hvk]
        have hA := h.v (pV P k 4 + 1) hltk (j := 4) (by decide)
        have okA : o_ok (p_v (o_sitk P k) k 4 (pV P k 4 + 1)) := okk.v (Or.inr (Or.inr (Or.inl rfl)))
        have i4 : X11_its Γ (z_i M w (4 + 6 * k + 4) (pV P k 4 + 1)) m (nI k) 4 = some (pV P k 4 + 1) := by
          rw [r_its (x := 4) hm hA h8 hltk (j := 4) rfl (by decide), pV_v, if_pos ⟨rfl, rfl⟩]
        have st : X11_stays Γ (z_i M w (4 + 6 * k + 4) (pV P k 4 + 1)) m (nI k) = some (o_st P k) := by
          rw [r_st hm hA okA hltk, ← est]
          unfold o_st
          rw [pV_v, if_neg (by omega), pV_v, if_neg (by omega)]
        show Rs ((X11_its Γ (z_i M w (4 + 6 * k + 4) (pV P k 4 + 1)) m (nI k) 4).bind _)
        rw [i4, Option.bind_some, st, Option.bind_some]
        by_cases c : o_st P k ≤ pV P k 4 + 1
        · rw [if_neg (Int32.not_lt.mpr c), if_pos (z_ixn (by omega) (by decide))]
          show Rs (if z_ix (nI (4 + 6 * k + 4)) 52 = true then _ else none)
          rw [if_pos (z_ixn (by omega) (by decide))]
          have hB := (hA.v (-1) (i := k) hltk (j := 3) (by decide)).v 0 (i := k) hltk (j := 4) (by decide)
          have hE : o_E (p_v (p_v (p_v (o_sitk P k) k 4 (pV P k 4 + 1)) k 3 (-1)) k 4 0) (o_sitk P (k + 1)) := by
            refine o_sitk_E ⟨rfl, rfl, rfl, rfl⟩ (fun i j => ?_)
            simp only [pV_v]
            by_cases e2 : i = k
            · subst e2
              rw [if_pos rfl]
              unfold o_sitv
              rw [if_neg cs, if_pos c]
              by_cases j4 : j = 4
              · subst j4; simp
              · by_cases j3 : j = 3
                · subst j3; simp
                · simp [j3, j4, hvk]
            · simp [e2]
          rw [nI_cl (show 4 + 6 * k + 3 < 1000000 by omega)]
          refine ih (k + 1) _ _ (by omega) (by omega) (hB.E hE) ((hg.add (k := k) (by omega)).cong (fun p _ => ?_)) ?_ (hfr.tr (((o_F.i (show o_rS w w from rfl)).tr (o_F.i (show o_rS w w from rfl))).tr (o_F.i (show o_rS w w from rfl))))
          · by_cases e2 : p = k
            · subst e2; unfold o_gone; simp [cs, c]
            · by_cases c2 : p < k
              · simp [c2, show p < k + 1 by omega, e2]
              · simp [c2, show ¬ p < k + 1 by omega, e2]
          · refine o_ok.E ?_ hE
            obtain ⟨a1, a2, a3, a4, a5⟩ := okk
            have hv3 : ∀ i, pV (p_v (p_v (p_v (o_sitk P k) k 4 (pV P k 4 + 1)) k 3 (-1)) k 4 0) i 3 = if i = k then -1 else pV (o_sitk P k) i 3 := fun i => by simp only [pV_v]; simp
            refine ⟨a1, a2, a3, fun i hi => ?_, fun i j hi hj e3 hne => ?_⟩
            · obtain ⟨g0, g1, g2, g3, g5⟩ := a4 i hi
              refine ⟨by simpa [pV_v] using g0, by simpa [pV_v] using g1, by simpa [pV_v] using g2, ?_, by simpa [pV_v] using g5⟩
              rw [hv3]
              split
              · exact Or.inl rfl
              · exact g3
            · rw [hv3, hv3] at e3
              rw [hv3] at hne
              by_cases c1 : i = k
              · rw [if_pos c1] at hne; exact absurd rfl hne
              · rw [if_neg c1] at e3 hne
                by_cases c2 : j = k
                · rw [if_pos c2] at e3; exact absurd e3 hne
                · rw [if_neg c2] at e3
                  exact a5 i j hi hj e3 hne
        · rw [if_pos (Int32.not_le.mp c)]
          have hE : o_E (p_v (o_sitk P k) k 4 (pV P k 4 + 1)) (o_sitk P (k + 1)) := by
            refine o_sitk_E ⟨rfl, rfl, rfl, rfl⟩ (fun i j => ?_)
            simp only [pV_v]
            by_cases e2 : i = k
            · subst e2
              rw [if_pos rfl]
              unfold o_sitv
              rw [if_neg cs, if_neg c]
              by_cases j4 : j = 4
              · subst j4; simp
              · simp [j4, hvk]
            · simp [e2]
          refine ih (k + 1) _ _ (by omega) (by omega) (hA.E hE) (hg.cong (fun p _ => ?_)) (okA.E hE) (hfr.tr (o_F.i (show o_rS w w from rfl)))
          by_cases e2 : p = k
          · subst e2; unfold o_gone; simp [c]
          · by_cases c2 : p < k
            · simp [c2, show p < k + 1 by omega]
            · simp [c2, show ¬ p < k + 1 by omega]
theorem r_next {Γ : Zg} {M : Zm} {m w : Nat} {P : Pk} (hm : z_r Γ m 0 = w) (h : o_R M w P) (ok : o_ok P) {x : Int32} {g : Nat → Bool} (hg : o_G x g) : X11_nextIn Γ M m x = some (o_oI (o_nx P g)) := by
  have h8 := ok.1
  have loop : ∀ f k r, 1 ≤ k → k + r = pN P + 1 → r < f → X11_nextIn_P2 Γ f M m x (nI k) = some (o_oI (o_nxl P g k r)) := by
    intro f
    induction f with
    | zero => intro k r _ _ h; omega
    | succ f ih =>
      intro k r hk hkr hf
      rw [X11_nextIn_P2, hm, h.1, h.2.2.2.1]
      cases r with
      | zero =>
        rw [if_pos (nI_lt (by omega) (by omega))]
        rfl
      | succ r =>
        have hn : 0 < pN P := by omega
        obtain ⟨e1, e2⟩ := o_rem ok hn hk (by omega)
        rw [if_neg (nI_nlt (by omega) (by omega)), if_pos (nI_ne0 hn (by omega)), e1, r_its (x := 3) hm h h8 e2 (j := 3) rfl (by decide), Option.bind_some, nI_s, o_nxl]
        have ih' := ih (k + 1) r (by omega) (by omega) (by omega)
        by_cases c1 : pV P (o_pk P k) 3 = -1
        · rw [if_neg (by rw [c1]; decide)]
          by_cases c2 : g (o_pk P k) = false
          · rw [if_pos ((o_holds0 _ _).mp ((hg.holds (by omega)).mpr c2)), if_pos ⟨c1, c2⟩]
            rfl
          · rw [if_neg (fun e => c2 ((hg.holds (by omega)).mp ((o_holds0 _ _).mpr e))), if_neg (fun e => c2 e.2)]
            exact ih'
        · have : (0 : Int32) ≤ pV P (o_pk P k) 3 := by
            rcases (ok.2.2.2.1 _ e2).2.2.2.1 with e3 | e3 | e3
            · exact absurd e3 c1
            · rw [e3]; decide
            · rw [e3]; decide
          rw [if_pos this, if_neg (fun e => c1 e.1)]
          exact ih'
  exact loop 1000 1 (pN P) (by omega) (by omega) (by omega)
theorem o_oI_neg {P : Pk} (h8 : pN P ≤ 8) {x : Option Nat} (hx : ∀ i, x = some i → i < pN P) : (o_oI x < 0 ↔ x = none) ∧ (0 ≤ o_oI x ↔ x ≠ none) ∧ (o_oI x = -1 ↔ x = none) := by
  cases x with
  | none => exact ⟨⟨fun _ => rfl, fun _ => by decide⟩, ⟨fun h => absurd h (by decide), fun h => absurd rfl h⟩, ⟨fun _ => rfl, fun _ => rfl⟩⟩
  | some i =>
    have hi := hx i rfl
    have : ∀ i, i < 8 → (¬ nI i < 0) ∧ (0 ≤ nI i) ∧ ¬ nI i = -1 := by decide
    obtain ⟨a, b, c⟩ := this i (by omega)
    exact ⟨⟨fun h => absurd h a, fun h => (by cases h)⟩, ⟨fun _ h => (by cases h), fun _ => b⟩, ⟨fun h => absurd h c, fun h => (by cases h)⟩⟩
/-- one seat of the reference's loop -/
theorem r_fill1 {Γ : Zg} {M : Zm} {m w : Nat} {P : Pk} (hm : z_r Γ m 0 = w) (h : o_R M w P) (ok : o_ok P) {s : Int32} (hs : s = 0 ∨ s = 1) {x : Int32} {g : Nat → Bool} (hg : o_G x g) (f : Nat) : ∃ M', X11_goesOn_P166 Γ (f + 1) M m x s = X11_goesOn_P166 Γ f M' m x (s + 1) ∧ o_R M' w (o_fill P s g) ∧ o_F (o_rS w) M M' := by
  have h8 := ok.1
  rw [X11_goesOn_P166, if_neg (by rcases hs with rfl | rfl <;> decide), r_hold hm h h8 s, Option.bind_some]
  have hh : ∀ i, o_hd P s = some i → i < pN P := fun i e => (o_hd_some e).1
  obtain ⟨-, hp, -⟩ := o_oI_neg h8 hh
  unfold o_fill
  by_cases c : o_hd P s = none
  · rw [if_neg (fun e => hp.mp e c), if_pos c, r_next hm h ok hg, Option.bind_some]
    cases hx : o_nx P g with
    | none =>
      rw [if_pos (show o_oI none < 0 by decide)]
      exact ⟨M, rfl, h, o_F.rf⟩
    | some p =>
      have hp := o_nx_lt hx
      have hnn : ¬ nI p < 0 := nI_pos (by omega)
      have hS : o_rS w w := rfl
      rw [show o_oI (some p) = nI p from rfl, if_neg hnn]
      rw [o_atJ (x := 3) (j := 3) rfl, if_pos (z_ixn (by omega) (by decide)), nI_cl (by omega), hm]
      show ∃ M', (if z_ix (X11_at (nI p) 4) 52 = true then z_lt (z_i (z_i M w (4 + 6 * p + 3) s) w ((X11_at (nI p) 4).toNatClampNeg) 0) _ else none) = _ ∧ _
      rw [o_atJ (x := 4) (j := 4) rfl, if_pos (z_ixn (by omega) (by decide)), nI_cl (by omega)]
      exact ⟨_, rfl, ((h.v s hp (j := 3) (by decide)).v 0 hp (j := 4) (by decide)).l (nI p), ((o_F.i hS).tr (o_F.i hS)).tr (o_F.i hS)⟩
  · rw [if_pos (hp.mpr c), if_neg c, if_pos (by decide)]
    exact ⟨M, rfl, h, o_F.rf⟩
theorem r_fill2 {Γ : Zg} {M : Zm} {m w : Nat} {P : Pk} (hm : z_r Γ m 0 = w) (h : o_R M w P) (ok : o_ok P) {x : Int32} {g : Nat → Bool} (hg : o_G x g) : ∃ M', X11_goesOn_P166 Γ 1000 M m x 0 = some M' ∧ o_R M' w (p_h (o_fill (o_fill P 0 g) 1 g) (pH P + 1)) ∧ o_F (o_rS w) M M' := by
  obtain ⟨M1, e1, h1, f1⟩ := r_fill1 hm h ok (Or.inl rfl) hg 999
  obtain ⟨M2, e2, h2, f2⟩ := r_fill1 hm h1 (o_fill_ok ok (Or.inl rfl) g) (Or.inr rfl) hg 998
  have hH : ∀ (Q : Pk) (s : Int32), pH (o_fill Q s g) = pH Q := fun Q s => by
    unfold o_fill
    split
    · cases o_nx Q g <;> rfl
    · rfl
  rw [e1, show (0 : Int32) + 1 = 1 from rfl, e2, show (1 : Int32) + 1 = 2 from rfl, X11_goesOn_P166, if_pos (by decide), hm]
  refine ⟨_, rfl, ?_, (f1.tr f2).tr (o_F.i (show o_rS w w from rfl))⟩
  have e3 := h2.2.2.1
  rw [hH, hH] at e3
  show o_R (z_i M2 w 1 (M2.1 w 1 + 1)) w _
  rw [e3]
  exact h2.h _
