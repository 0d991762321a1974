def o_new (P : Pk) (k : Int32) : Pk := (pN P + 1, pH P, pS P, pL P, fun a b => if a = pN P then (if b = 0 then k else if b = 3 then -1 else 0) else pV P a b)
theorem o_new_ok {P : Pk} (ok : o_ok P) (h8 : pN P < 8) {k : Nat} (hk : k < 6) : o_ok (o_new P (nI k)) := by
  obtain ⟨h1, h2, h3, h4, h5⟩ := ok
  refine ⟨h8, h2, ?_, fun i hi => ?_, fun i j hi hj e n => ?_⟩
  · rcases h3 with h3 | ⟨q, hq, eq⟩
    · exact Or.inl h3
    · exact Or.inr ⟨q, Nat.lt_succ_of_lt hq, eq⟩
  · by_cases c : i = pN P
    · have e : ∀ j, pV (o_new P (nI k)) i j = if j = 0 then nI k else if j = 3 then -1 else 0 := fun j => if_pos c
      rw [e, e, e, e, e]
      exact ⟨⟨k, hk, rfl⟩, ⟨0, by decide, rfl⟩, ⟨0, by decide, rfl⟩, Or.inl rfl, ⟨0, by decide, rfl⟩⟩
    · have e : ∀ j, pV (o_new P (nI k)) i j = pV P i j := fun j => if_neg c
      rw [e, e, e, e, e]
      exact h4 i (by have : i < pN P + 1 := hi; omega)
  · have hi' : i < pN P + 1 := hi
    have hj' : j < pN P + 1 := hj
    by_cases c : i = pN P
    · exact absurd (show pV (o_new P (nI k)) i 3 = -1 from if_pos c) n
    · by_cases d : j = pN P
      · exact absurd (e.trans (show pV (o_new P (nI k)) j 3 = -1 from if_pos d)) n
      · have e1 : pV (o_new P (nI k)) i 3 = pV P i 3 := if_neg c
        have e2 : pV (o_new P (nI k)) j 3 = pV P j 3 := if_neg d
        rw [e1, e2] at e
        rw [e1] at n
        exact h5 i j (by omega) (by omega) e n
theorem c_wel {Γ : Zg} {M : Zm} {a : Nat} {P : Pk} (hP : g_P Γ a) (h : o_C M a P) (h8 : pN P < 8) (k : Int32) : ∃ M', X3_welcome Γ M a k = some (nI (pN P), M') ∧ o_C M' a (o_new P k) ∧ o_F (o_cS a) M M' := by
  have s : o_cS a (a + 2 + pN P) := ⟨by omega, by omega⟩
  have sa : o_cS a a := ⟨by omega, by omega⟩
  unfold X3_welcome X8_beNew X8_settle
  simp only [z_lts]
  rw [h.1, if_pos (z_ixn h8 (by decide)), nI_cl (by omega), hP.1 _ h8]
  refine ⟨_, congrArg (fun x => some (x, _)) ?_, ?_, ?_⟩
  rotate_right 1
  · exact ((((((o_F.i s).tr (o_F.i s)).tr (o_F.i s)).tr (o_F.i s)).tr (o_F.i s)).tr (o_F.i s)).tr (o_F.i sa)
  · have n1 : ¬ a = a + 2 + pN P := by omega
    simp only [z_i_rd, n1, false_and, if_false, true_and, and_self, if_true, h.1, nI_s]
    rw [nI_pred]
  · obtain ⟨h1, h2, h3, h4, h5⟩ := h
    have n1 : ¬ a = a + 2 + pN P := by omega
    refine ⟨?_, ?_, ?_, ?_, fun i hi j hj => ?_⟩
    · simp only [z_i_rd, n1, false_and, if_false, and_self, if_true, h1, nI_s]; rfl
    · simp only [z_i_rd, n1, false_and, if_false, h2]; simp; rfl
    · simp only [z_i_rd, n1, false_and, if_false, h3]; simp; rfl
    · simp only [z_i_rd, n1, false_and, if_false, h4]; simp; rfl
    · have hi' : i < pN P + 1 := hi
      have n2 : ¬ a + 2 + i = a := by omega
      show _ = if i = pN P then _ else _
      by_cases c : i = pN P
      · subst c
        rw [if_pos rfl]
        have hj' : j = 0 ∨ j = 1 ∨ j = 2 ∨ j = 3 ∨ j = 4 ∨ j = 5 := by omega
        rcases hj' with rfl | rfl | rfl | rfl | rfl | rfl <;> simp [z_i_rd, n2]
      · have n3 : ¬ a + 2 + i = a + 2 + pN P := by omega
        rw [if_neg c]
        simp only [z_i_rd, n2, n3, false_and, if_false]
        exact h5 i (by omega) j hj
theorem r_com {Γ : Zg} {M : Zm} {m w : Nat} {P : Pk} (hm : z_r Γ m 0 = w) (h : o_R M w P) (h8 : pN P < 8) (k : Int32) : ∃ M', X11_comes Γ M m k = some M' ∧ o_R M' w (o_new P k) ∧ o_F (o_rS w) M M' := by
  have s : o_rS w w := rfl
  unfold X11_comes
  simp only [z_lts]
  rw [hm, h.1, o_atJ (x := 0) (j := 0) rfl, o_atJ (x := 1) (j := 1) rfl, o_atJ (x := 2) (j := 2) rfl, o_atJ (x := 3) (j := 3) rfl, o_atJ (x := 4) (j := 4) rfl, o_atJ (x := 5) (j := 5) rfl]
  rw [if_pos (z_ixn (by omega) (by decide)), if_pos (z_ixn (by omega) (by decide)), if_pos (z_ixn (by omega) (by decide)), if_pos (z_ixn (by omega) (by decide)), if_pos (z_ixn (by omega) (by decide)), if_pos (z_ixn (by omega) (by decide))]
  rw [nI_cl (by omega), nI_cl (by omega), nI_cl (by omega), nI_cl (by omega), nI_cl (by omega), nI_cl (by omega)]
  refine ⟨_, rfl, ?_, ?_⟩
  rotate_left 1
  · exact ((((((o_F.i s).tr (o_F.i s)).tr (o_F.i s)).tr (o_F.i s)).tr (o_F.i s)).tr (o_F.i s)).tr (o_F.i s)
  obtain ⟨h1, h2, h3, h4, h5⟩ := h
  have nn : ∀ x, x < 4 → ∀ j, ¬ x = 4 + 6 * pN P + j := fun x hx j => by omega
  refine ⟨?_, ?_, ?_, ?_, fun i hi j hj => ?_⟩
  · simp only [z_i_rd, true_and, nn 0 (by decide), if_false, if_true, h1, nI_s]; rfl
  · simp only [z_i_rd, true_and, nn 2 (by decide), if_false, h2]; simp; rfl
  · simp only [z_i_rd, true_and, nn 1 (by decide), if_false, h3]; simp; rfl
  · simp only [z_i_rd, true_and, nn 3 (by decide), if_false, h4]; simp; rfl
  · have hi' : i < pN P + 1 := hi
    have n2 : ¬ 4 + 6 * i + j = 0 := by omega
    show _ = if i = pN P then _ else _
    by_cases c : i = pN P
    · subst c
      rw [if_pos rfl]
      have hj' : j = 0 ∨ j = 1 ∨ j = 2 ∨ j = 3 ∨ j = 4 ∨ j = 5 := by omega
      rcases hj' with rfl | rfl | rfl | rfl | rfl | rfl <;> simp [z_i_rd]
    · have n3 : ∀ x, x < 6 → ¬ 4 + 6 * i + j = 4 + 6 * pN P + x := fun x hx => by omega
      rw [if_neg c]
      simp only [z_i_rd, true_and, n2, n3 0 (by decide), n3 1 (by decide), n3 2 (by decide), n3 3 (by decide), n3 4 (by decide), n3 5 (by decide), if_false]
      exact h5 i (by omega) j hj
theorem e_person {Γ : Zg} {sz : Nat} (g : g_Ok Γ sz) {S : Sg} (o : SO S) (b : Int32) : eS sz (fun M => X10_person Γ M sz b) (fun M => X11_person Γ M (sz + 51) b) S := by
  unfold X10_person X11_person
  have H := gm g
  have G := gx g
  have ok := o.1.1
  have h8 := ok.1
  refine eS.ite (b < 0 ∨ 5 < b) (fun M _ => i_kind b) (fun M _ => x_in2 0 5 b (by decide) (by decide)) (fun _ => eS.fd1 g o 0 (by decide) (by decide)) (fun c => ?_)
  obtain ⟨q, hq, rfl⟩ := o_rg (n := 5) (by decide) (fun q => c (Or.inl q)) (fun q => c (Or.inr q))
  have full : ∀ n, n ≤ 8 → (((if nI n < 8 then (0 : Int32) else 1) = 0 ↔ n < 8) ∧ (nI n = 8 ↔ ¬ n < 8)) := by decide
  by_cases d : pN (sP S) < 8
  · refine eS.ch (fun M h => by rw [if_pos (show X3_isFull M (z_r Γ sz 0) = 0 from by unfold X3_isFull; rw [G.1, h.1.1]; exact ((full _ h8).1.mpr d))]) (fun M h => by rw [H.1, h.1.1, if_neg (fun e => (full _ h8).2.mp e d)]) ?_
    refine eS.up o (o_new (sP S) (nI q)) ⟨o_new_ok ok d (by omega), o.1.2⟩ (r := nI (pN (sP S))) (fun M h => ?_) (fun M h => ?_)
    · obtain ⟨M', e', c', f'⟩ := c_wel (g_P8 g) h.1 d (nI q)
      exact ⟨M', by rw [G.1, e', z_bps], c', f'.T8⟩
    · obtain ⟨M', e', c', f'⟩ := r_com H.1 h.1 d (nI q)
      exact ⟨M', by rw [e', Option.bind_some, c'.1]; show some (nI (pN (sP S) + 1) - 1, M') = _; rw [nI_pred], c', f'.T52⟩
  · exact eS.fd g o 1 (x := -1000000002) (by decide) (by decide) (fun M h => by rw [if_neg (show ¬ X3_isFull M (z_r Γ sz 0) = 0 from by unfold X3_isFull; rw [G.1, h.1.1]; exact fun e => d ((full _ h8).1.mp e))]) (fun M h => by rw [H.1, h.1.1, if_pos ((full _ h8).2.mpr d)])
