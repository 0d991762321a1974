def o_lj (P : Pk) (i : Nat) (x : Int32) : Pk := p_v (p_v P i 1 x) i 2 (pV P i 2 &&& x)
theorem p_v_sq (Q : Pk) (i j k : Nat) (h b : Int32) (hjk : j ≠ k) : o_E (p_v (p_v Q i j h) i k b) (p_v (p_v Q i k b) i j h) := by
  refine ⟨rfl, rfl, rfl, rfl, fun a _ c _ => ?_⟩
  rw [pV_v, pV_v, pV_v, pV_v]
  by_cases e : a = i
  · by_cases e1 : c = j
    · rw [if_neg (by omega), if_pos ⟨e, e1⟩, if_pos ⟨e, e1⟩]
    · by_cases e2 : c = k
      · rw [if_pos ⟨e, e2⟩, if_neg (by omega), if_pos ⟨e, e2⟩]
      · rw [if_neg (by omega), if_neg (by omega), if_neg (by omega), if_neg (by omega)]
  · rw [if_neg (by omega), if_neg (by omega), if_neg (by omega), if_neg (by omega)]
theorem c_lj {M : Zm} {a : Nat} {P : Pk} (h : o_C M a P) (h8 : pN P ≤ 8) {i : Nat} (hi : i < pN P) (x : Int32) : ∃ M', X8_learnJust M (a + 2 + i) x = (pV P i 1, M') ∧ o_C M' a (o_lj P i x) ∧ o_F (o_cS a) M M' := by
  have s : o_cS a (a + 2 + i) := ⟨by omega, by omega⟩
  have h1 := h.v (i := i) (j := 1) x hi (by decide)
  have h2 := h1.v (i := i) (j := 2) (pV P i 2 &&& x) hi (by decide)
  refine ⟨_, ?_, h2, (o_F.i s).tr (o_F.i s)⟩
  unfold X8_learnJust
  rw [z_lts, z_lts, h.2.2.2.2 i hi 1 (by decide), h1.2.2.2.2 i hi 2 (by decide), pV_v, if_neg (by omega)]
theorem r_lj {Γ : Zg} {M : Zm} {m w : Nat} {P : Pk} (hm : z_r Γ m 0 = w) (h : o_R M w P) (h8 : pN P ≤ 8) {i : Nat} (hi : i < pN P) (x : Int32) : ∃ M', X11_knowsNow Γ M m (nI i) x = some (pV P i 1, M') ∧ o_R M' w (o_lj P i x) ∧ o_F (o_rS w) M M' := by
  have s : o_rS w w := rfl
  have h1 := h.v (i := i) (j := 2) (pV P i 2 &&& x) hi (by decide)
  have h2 := h1.v (i := i) (j := 1) x hi (by decide)
  refine ⟨_, ?_, h2.E (p_v_sq P i 2 1 _ _ (by decide)), (o_F.i s).tr (o_F.i s)⟩
  unfold X11_knowsNow
  rw [o_atJ (x := 2) (j := 2) rfl, if_pos (z_ixn (by omega) (by decide)), if_pos (z_ixn (by omega) (by decide)), nI_cl (by omega), z_lts, hm, h.2.2.2.2 i hi 2 (by decide), r_bec hm (k := 4 + 6 * i + 1) (by omega) (o_atJ (x := 1) (j := 1) rfl), z_bps, h1.2.2.2.2 i hi 1 (by decide), pV_v, if_neg (by omega)]
theorem o_lj_ok {P : Pk} (ok : o_ok P) {i : Nat} (hi : i < pN P) {q : Nat} (hq : q < 1024) : o_ok (o_lj P i (nI q)) := by
  refine o_ok.v (o_ok.v ok (Or.inl ⟨rfl, q, hq, rfl⟩)) (Or.inr (Or.inl ⟨rfl, ?_⟩))
  obtain ⟨r, hr, er⟩ := (ok.2.2.2.1 i hi).2.2.1
  rw [er]
  obtain ⟨t, ht, et⟩ := o_andle (a := r) (by omega) (nI q)
  exact ⟨t, by omega, et⟩
theorem e_set {Γ : Zg} {sz : Nat} (g : g_Ok Γ sz) {S : Sg} (o : SO S) (a b c : Int32) : eS sz (fun M => X10_set Γ M sz a b c) (fun M => X11_set Γ M (sz + 51) a b c) S := by
  unfold X10_set X11_set
  refine eS.has g o a (fun i hi ea => ?_)
  subst ea
  have H := gm g
  have G := gx g
  have ok := o.1.1
  have h8 := ok.1
  refine eS.ch (fun M _ => by rw [G.1, c_vis (g_P8 g) (by omega), Option.bind_some]) (fun _ _ => rfl) ?_
  have sa : o_cS (sz + 8) (sz + 8 + 2 + i) := ⟨by omega, by omega⟩
  have one : ∀ hi' : Int32, X11_isIn c.toInt64 (0 : Int64) hi'.toInt64 = 0 ∨ X11_isIn c.toInt64 (0 : Int64) hi'.toInt64 = 1 := fun hi' => by
    rw [show (0 : Int64) = (0 : Int32).toInt64 from by decide, x_in]
    split
    · exact Or.inl rfl
    · split
      · exact Or.inl rfl
      · exact Or.inr rfl
  by_cases b1 : b = 1
  · subst b1
    have k1 := one 1023
    refine eS.ch (fun M _ => by rw [if_pos rfl]) (fun M _ => by rw [show X11_may Γ M (sz + 51) (nI i) 1 c = some (X11_isIn c.toInt64 (0 : Int64) (1023 : Int64)) from by unfold X11_may; rw [if_pos rfl]; exact if_pos k1, Option.bind_some]) ?_
    refine eS.ite (c < 0 ∨ 1023 < c) (fun M _ => x_set c) (fun M _ => x_in2 0 1023 c (by decide) (by decide)) (fun _ => eS.fd1 g o 0 (by decide) (by decide)) (fun d => ?_)
    obtain ⟨q, hq, rfl⟩ := o_rg (n := 1023) (by decide) (fun q => d (Or.inl q)) (fun q => d (Or.inr q))
    refine eS.up o (o_lj (sP S) i (nI q)) ⟨o_lj_ok ok hi (by omega), o.1.2⟩ (r := pV (sP S) i 1) (fun M h => ?_) (fun M h => ?_)
    · obtain ⟨M', e', c', f'⟩ := c_lj h.1 h8 hi (nI q)
      exact ⟨M', by rw [e', z_lps], c', f'.T8⟩
    · obtain ⟨M', e', c', f'⟩ := r_lj H.1 h.1 h8 hi (nI q)
      exact ⟨M', by rw [if_pos rfl, e', z_bps], c', f'.T52⟩
  · by_cases b2 : b = 2
    · subst b2
      refine eS.ch (fun M _ => by rw [if_neg b1, if_pos rfl]) (fun _ _ => rfl) ?_
      by_cases d : c < 0 ∨ 1023 < c
      · exact eS.fd g o 0 (x := -1000000001) (by decide) (by decide) (fun M _ => by rw [if_pos ((x_set c).mpr d)]) (fun M _ => by
          rw [show X11_may Γ M (sz + 51) (nI i) 2 c = some 0 from by unfold X11_may; rw [if_neg b1, if_pos rfl, if_pos ((x_in2 0 1023 c (by decide) (by decide)).mpr d)], Option.bind_some, if_pos rfl])
      · refine eS.ch (fun M h => by rw [if_neg (fun q => d ((x_set c).mp q)), h.1.2.2.2.2 i hi 1 (by decide)]) (fun M h => by
          rw [show X11_may Γ M (sz + 51) (nI i) 2 c = some (if c &&& (pV (sP S) i 1 ^^^ (-1)) = 0 then 1 else 0) from by
            unfold X11_may
            rw [if_neg b1, if_pos rfl, if_neg (fun q => d ((x_in2 0 1023 c (by decide) (by decide)).mp q)), r_its (x := 1) H.1 h.1 h8 hi (j := 1) rfl (by decide), Option.bind_some]
            split <;> rfl, Option.bind_some]) ?_
        by_cases e : c &&& (pV (sP S) i 1 ^^^ (-1)) = 0
        · obtain ⟨q, hq, rfl⟩ := o_rg (n := 1023) (by decide) (fun q => d (Or.inl q)) (fun q => d (Or.inr q))
          refine eS.up o (p_v (sP S) i 2 (nI q)) ⟨ok.v (Or.inr (Or.inl ⟨rfl, q, by omega, rfl⟩)), o.1.2⟩ (r := pV (sP S) i 2) (fun M h => ?_) (fun M h => ?_)
          · refine ⟨_, ?_, h.1.v (nI q) hi (by decide), o_F.T8 (o_F.i sa)⟩
            rw [if_pos e]
            unfold X8_believeJust
            rw [h.1.2.2.2.2 i hi 2 (by decide)]
            rfl
          · refine ⟨_, ?_, h.1.v (nI q) hi (by decide), o_F.T52 (o_F.i rfl)⟩
            rw [if_pos e, if_neg (by decide), if_neg b1, r_bec H.1 (k := 4 + 6 * i + 2) (by omega) (o_atJ (x := 2) (j := 2) rfl), z_bpi, h.1.2.2.2.2 i hi 2 (by decide)]
        · exact eS.fd g o 0 (x := -1000000001) (by decide) (by decide) (fun M _ => by rw [if_neg e]) (fun M _ => by rw [if_neg e, if_pos rfl])
    · by_cases b5 : b = 5
      · subst b5
        have k1 := one 9999
        refine eS.ch (fun M _ => by rw [if_neg b1, if_neg b2, if_neg (by decide), if_neg (by decide), if_pos rfl]) (fun M _ => by rw [show X11_may Γ M (sz + 51) (nI i) 5 c = some (X11_isIn c.toInt64 (0 : Int64) (9999 : Int64)) from by unfold X11_may; rw [if_neg b1, if_neg b2, if_neg (by decide), if_neg (by decide), if_pos rfl]; exact if_pos k1, Option.bind_some]) ?_
        by_cases d : c < 0 ∨ 9999 < c
        · refine eS.fd g o 0 (x := -1000000001) (by decide) (by decide) (fun M _ => ?_) (fun M _ => by rw [if_pos ((x_in2 0 9999 c (by decide) (by decide)).mpr d)])
          by_cases e : c < 0
          · rw [if_pos e]
          · rw [if_neg e, if_pos (d.resolve_left e)]
        · refine eS.ch (fun M _ => by rw [if_neg (fun q => d (Or.inl q)), if_neg (fun q => d (Or.inr q))]) (fun M _ => by rw [if_neg (fun q => d ((x_in2 0 9999 c (by decide) (by decide)).mp q)), if_neg b1]) ?_
          obtain ⟨q, hq, rfl⟩ := o_rg (n := 9999) (by decide) (fun q => d (Or.inl q)) (fun q => d (Or.inr q))
          refine eS.up o (p_v (sP S) i 5 (nI q)) ⟨ok.v (Or.inr (Or.inr (Or.inr (Or.inl ⟨rfl, q, by omega, rfl⟩)))), o.1.2⟩ (r := pV (sP S) i 5) (fun M h => ?_) (fun M h => ?_)
          · refine ⟨_, ?_, h.1.v (nI q) hi (by decide), o_F.T8 (o_F.i sa)⟩
            unfold X8_haveHeard
            rw [h.1.2.2.2.2 i hi 5 (by decide)]
            rfl
          · refine ⟨_, ?_, h.1.v (nI q) hi (by decide), o_F.T52 (o_F.i rfl)⟩
            rw [r_bec H.1 (k := 4 + 6 * i + 5) (by omega) (o_atJ (x := 5) (j := 5) rfl), z_bpi, h.1.2.2.2.2 i hi 5 (by decide)]
      · refine eS.fd g o 0 (x := -1000000001) (by decide) (by decide) (fun M _ => ?_) (fun M _ => ?_)
        · rw [if_neg b1, if_neg b2, if_neg b5]
          split
          · rfl
          · split <;> rfl
        · rw [show X11_may Γ M (sz + 51) (nI i) b c = some 0 from by
            unfold X11_may
            rw [if_neg b1, if_neg b2, if_neg b5]
            split
            · rfl
            · split <;> rfl, Option.bind_some, if_pos rfl]
