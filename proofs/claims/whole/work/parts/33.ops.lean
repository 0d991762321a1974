theorem e_of {Γ : Zg} {sz : Nat} (g : g_Ok Γ sz) {S : Sg} (o : SO S) (a b : Int32) : eS sz (fun M => X10_of Γ M sz a b) (fun M => X11_of Γ M (sz + 51) a b) S := by
  unfold X10_of X11_of
  refine eS.has g o a (fun i hi ea => ?_)
  subst ea
  have h8 := o.1.1.1
  refine eS.ch (fun M _ => by rw [(gx g).1, c_vis (g_P8 g) (by omega), Option.bind_some]) (fun _ _ => rfl) ?_
  by_cases d : b < 0 ∨ 7 < b
  · have nb : ∀ k, k < 8 → ¬ b = nI k := by
      intro k hk e
      subst e
      rcases d with d | d
      · exact nI_pos (by omega) d
      · exact nI_nlt (a := 7) (b := k) (by omega) (by omega) d
    refine eS.fd g o 0 (x := -1000000001) (by decide) (by decide) (fun M _ => ?_) (fun M _ => by rw [if_pos ((x_in2 0 7 b (by decide) (by decide)).mpr d)])
    rw [if_neg (show ¬ b = 0 from nb 0 (by decide)), if_neg (show ¬ b = 1 from nb 1 (by decide)), if_neg (show ¬ b = 2 from nb 2 (by decide)), if_neg (show ¬ b = 3 from nb 3 (by decide)), if_neg (show ¬ b = 4 from nb 4 (by decide)), if_neg (show ¬ b = 5 from nb 5 (by decide)), if_neg (show ¬ b = 6 from nb 6 (by decide)), if_neg (show ¬ b = 7 from nb 7 (by decide))]
  · refine eS.ch (fun _ _ => rfl) (fun M _ => by rw [if_neg (fun q => d ((x_in2 0 7 b (by decide) (by decide)).mp q))]) ?_
    obtain ⟨q, hq, rfl⟩ := o_rg (n := 7) (by decide) (fun q => d (Or.inl q)) (fun q => d (Or.inr q))
    have c6 : ∀ j, j < 6 → ∀ M, SC sz M S → M.1 (sz + 8 + 2 + i) j = pV (sP S) i j := fun j hj M h => h.1.2.2.2.2 i hi j hj
    have r6 : ∀ j, j < 6 → ∀ M, SM sz M S → X11_its Γ M (sz + 51) (nI i) (nI j) = some (pV (sP S) i j) := fun j hj M h => r_its (gm g).1 h.1 h8 hi rfl hj
    have hq' : q = 0 ∨ q = 1 ∨ q = 2 ∨ q = 3 ∨ q = 4 ∨ q = 5 ∨ q = 6 ∨ q = 7 := by omega
    rcases hq' with rfl | rfl | rfl | rfl | rfl | rfl | rfl | rfl
    · exact eS.rd o (fun M h => by rw [if_pos (by decide), c6 0 (by decide) M h]) (fun M h => by rw [if_neg (by decide), if_neg (by decide), r6 0 (by decide) M h]; rfl)
    · exact eS.rd o (fun M h => by rw [if_neg (by decide), if_pos (by decide), c6 1 (by decide) M h]) (fun M h => by rw [if_neg (by decide), if_neg (by decide), r6 1 (by decide) M h]; rfl)
    · exact eS.rd o (fun M h => by rw [if_neg (by decide), if_neg (by decide), if_pos (by decide), c6 2 (by decide) M h]) (fun M h => by rw [if_neg (by decide), if_neg (by decide), r6 2 (by decide) M h]; rfl)
    · exact eS.rd o (fun M h => by rw [if_neg (by decide), if_neg (by decide), if_neg (by decide), if_pos (by decide), c6 3 (by decide) M h]) (fun M h => by rw [if_neg (by decide), if_neg (by decide), r6 3 (by decide) M h]; rfl)
    · exact eS.rd o (fun M h => by rw [if_neg (by decide), if_neg (by decide), if_neg (by decide), if_neg (by decide), if_pos (by decide), c6 4 (by decide) M h]) (fun M h => by rw [if_neg (by decide), if_neg (by decide), r6 4 (by decide) M h]; rfl)
    · exact eS.rd o (fun M h => by rw [if_neg (by decide), if_neg (by decide), if_neg (by decide), if_neg (by decide), if_neg (by decide), if_pos (by decide), c6 5 (by decide) M h]) (fun M h => by rw [if_neg (by decide), if_neg (by decide), r6 5 (by decide) M h]; rfl)
    · exact eS.rd o (fun M h => by rw [if_neg (by decide), if_neg (by decide), if_neg (by decide), if_neg (by decide), if_neg (by decide), if_neg (by decide), if_pos (by decide), c_say (g_P8 g) h.1 o.1.1 hi]; rfl) (fun M h => by rw [if_pos (by decide), r_say (gm g).1 h.1 o.1.1 hi]; rfl)
    · exact eS.rd o (fun M h => by rw [if_neg (by decide), if_neg (by decide), if_neg (by decide), if_neg (by decide), if_neg (by decide), if_neg (by decide), if_neg (by decide), if_pos (by decide), c_st (g_P8 g) h.1 o.1.1 hi]; rfl) (fun M h => by rw [if_neg (by decide), if_pos (by decide), r_st (gm g).1 h.1 o.1.1 hi]; rfl)
theorem t_under : ∀ k, k < 6 → ∀ q, q < 6 → X10_isUnder (nI k) (nI q) = some (X11_isUnder (nI k) (nI q)) := by decide +kernel
theorem e_as {Γ : Zg} {sz : Nat} (g : g_Ok Γ sz) {S : Sg} (o : SO S) (a b : Int32) : eS sz (fun M => X10_as Γ M sz a b) (fun M => X11_as Γ M (sz + 51) a b) S := by
  unfold X10_as X11_as
  refine eS.has g o a (fun i hi ea => ?_)
  subst ea
  refine eS.ite (b < 0 ∨ 5 < b) (fun M _ => i_kind b) (fun M _ => x_in2 0 5 b (by decide) (by decide)) (fun _ => eS.fd1 g o 0 (by decide) (by decide)) (fun c => ?_)
  obtain ⟨q, hq, rfl⟩ := o_rg (n := 5) (by decide) (fun q => c (Or.inl q)) (fun q => c (Or.inr q))
  have h8 := o.1.1.1
  obtain ⟨k, hk, ek⟩ := (o.1.1.2.2.2.1 i hi).1
  refine eS.ch (A' := fun M => if X11_isUnder (nI k) (nI q) = 0 then z_bp (X10_finding Γ M sz (-1000000003)) (fun r M => some (r, M)) else some (pV (sP S) i 5, M)) (B' := fun M => if X11_isUnder (nI k) (nI q) = 0 then z_bp (X11_finds Γ M (sz + 51) (-1000000003)) (fun r M => some (r, M)) else some (pV (sP S) i 5, M)) (fun M h => ?_) (fun M h => ?_) ?_
  · rw [(gx g).1, c_vis (g_P8 g) (by omega), Option.bind_some, h.1.2.2.2.2 i hi 0 (by decide), ek, t_under k hk q (by omega), Option.bind_some, h.1.2.2.2.2 i hi 5 (by decide)]
  · rw [r_its (x := 0) (gm g).1 h.1 h8 hi (j := 0) rfl (by decide), r_its (x := 5) (gm g).1 h.1 h8 hi (j := 5) rfl (by decide), Option.bind_some, ek, Option.bind_some]
  · exact eS.ite (X11_isUnder (nI k) (nI q) = 0) (fun _ _ => Iff.rfl) (fun _ _ => Iff.rfl) (fun _ => eS.fd1 g o 2 (by decide) (by decide)) (fun _ => eS.rd o (fun _ _ => rfl) (fun _ _ => rfl))
theorem e_now {Γ : Zg} {sz : Nat} (g : g_Ok Γ sz) {S : Sg} (o : SO S) (a : Int32) : eS sz (fun M => X10_now Γ M sz a) (fun M => X11_now Γ M (sz + 51) a) S := by
  unfold X10_now X11_now
  have h8 := o.1.1.1
  have G := gx g
  have H := gm g
  have P8 := g_P8 g
  refine eS.ite (a = 0) (fun _ _ => Iff.rfl) (fun _ _ => Iff.rfl) (fun _ => eS.rd o (r := pH (sP S)) (fun M h => by rw [G.1, h.1.2.2.1]) (fun M h => by rw [H.1, h.1.2.2.1])) (fun _ => ?_)
  refine eS.ite (a = 1) (fun _ _ => Iff.rfl) (fun _ _ => Iff.rfl) (fun _ => eS.rd o (r := pH (sP S) - pH (sP S) / 24 * 24) (fun M h => by unfold X3_hourOfDay; rw [G.1, h.1.2.2.1]) (fun M h => by rw [H.1, h.1.2.2.1])) (fun _ => ?_)
  refine eS.ite (a = 2) (fun _ _ => Iff.rfl) (fun _ _ => Iff.rfl) (fun _ => eS.ite (¬ (pH (sP S) / 24) - (pH (sP S) / 24) / 7 * 7 = 0) (fun M h => by unfold X3_isMonday; rw [G.1, h.1.2.2.1]; split <;> simp_all) (fun M h => by unfold X11_isMonday; rw [H.1, h.1.2.2.1]; split <;> simp_all) (fun _ => eS.rd o (fun _ _ => rfl) (fun _ _ => rfl)) (fun _ => eS.rd o (fun _ _ => rfl) (fun _ _ => rfl))) (fun _ => ?_)
  refine eS.ite (a = 3) (fun _ _ => Iff.rfl) (fun _ _ => Iff.rfl) (fun _ => eS.rd o (fun M h => by rw [G.1, c_hold P8 h.1 o.1.1 (by decide)]; rfl) (fun M h => by rw [r_hold H.1 h.1 h8]; rfl)) (fun _ => ?_)
  refine eS.ite (a = 4) (fun _ _ => Iff.rfl) (fun _ _ => Iff.rfl) (fun _ => eS.rd o (fun M h => by rw [G.1, c_hold P8 h.1 o.1.1 (by decide)]; rfl) (fun M h => by rw [r_hold H.1 h.1 h8]; rfl)) (fun _ => ?_)
  refine eS.ite (a = 5) (fun _ _ => Iff.rfl) (fun _ _ => Iff.rfl) (fun _ => eS.rd o (fun M h => by rw [G.1, c_out P8 h.1 h8]; rfl) (fun M h => by rw [r_out H.1 h.1 h8]; rfl)) (fun _ => ?_)
  refine eS.ite (a = 6) (fun _ _ => Iff.rfl) (fun _ _ => Iff.rfl) (fun _ => eS.rd o (r := pS (sP S)) (fun M h => by rw [G.1, h.1.2.1]) (fun M h => by rw [H.1, h.1.2.1])) (fun _ => ?_)
  refine eS.ite (a = 7) (fun _ _ => Iff.rfl) (fun _ _ => Iff.rfl) (fun _ => eS.rd o (r := pL (sP S)) (fun M h => by rw [G.1, h.1.2.2.2.1]) (fun M h => by rw [H.1, h.1.2.2.2.1])) (fun _ => ?_)
  exact eS.fd1 g o 0 (by decide) (by decide)
theorem e_count {Γ : Zg} {sz : Nat} (g : g_Ok Γ sz) {S : Sg} (o : SO S) (a : Int32) : eS sz (fun M => X10_count Γ M sz a) (fun M => X11_count Γ M (sz + 51) a) S := by
  unfold X10_count X11_count
  have h8 := o.1.1.1
  have G := gx g
  have H := gm g
  have P8 := g_P8 g
  refine eS.ite (a = 0) (fun _ _ => Iff.rfl) (fun _ _ => Iff.rfl) (fun _ => eS.rd o (r := nI (pN (sP S))) (fun M h => by rw [G.1, h.1.1]) (fun M h => by rw [H.1, h.1.1])) (fun _ => ?_)
  refine eS.ite (a = 1) (fun _ _ => Iff.rfl) (fun _ _ => Iff.rfl) (fun _ => eS.rd o (r := nI (sN S)) (fun M h => by rw [G.2.2.2.1, h.2.2.1.1]) (fun M h => by rw [h.2.2.1.1])) (fun _ => ?_)
  refine eS.ite (a = 2) (fun _ _ => Iff.rfl) (fun _ _ => Iff.rfl) (fun _ => eS.rd o (fun M h => by rw [G.1, c_heard P8 h.1 h8]; rfl) (fun M h => by rw [r_heard H.1 h.1 h8]; rfl)) (fun _ => ?_)
  refine eS.ite (a = 3) (fun _ _ => Iff.rfl) (fun _ _ => Iff.rfl) (fun _ => eS.rd o (fun M h => by rw [G.1, c_bel P8 h.1 h8]; rfl) (fun M h => by rw [r_bel H.1 h.1 o.1.1]; rfl)) (fun _ => ?_)
  exact eS.fd1 g o 0 (by decide) (by decide)
