theorem e_wisest {Γ : Zg} {sz : Nat} (g : g_Ok Γ sz) {S : Sg} (o : SO S) (b : Int32) : eS sz (fun M => X10_wisest Γ M sz b) (fun M => X11_wisest Γ M (sz + 51) b) S := by
  unfold X10_wisest X11_wisest
  have ok := o.1.1
  have h8 := ok.1
  by_cases d : b < 0 ∨ 200 < b
  · refine eS.fd g o 0 (x := -1000000001) (by decide) (by decide) (fun M _ => ?_) (fun M _ => by rw [if_pos ((x_in2 0 200 b (by decide) (by decide)).mpr d)])
    by_cases e : b < 0
    · rw [if_pos e]
    · rw [if_neg e, if_neg (fun q => Int32.not_le.mpr (d.resolve_left e) q)]
  · obtain ⟨n, hn, rfl⟩ := o_rg (n := 200) (by decide) (fun q => d (Or.inl q)) (fun q => d (Or.inr q))
    have hk := o_hrs_ok n ok
    refine eS.ch (fun M h => by rw [if_neg (fun q => d (Or.inl q)), if_pos (Int32.not_lt.mp (fun q => d (Or.inr q))), show M.1 (z_r Γ sz 0) 2 = nI (pN (sP S)) from by rw [(gx g).1]; exact h.1.1]) (fun M _ => by rw [if_neg (fun q => d ((x_in2 0 200 _ (by decide) (by decide)).mp q))]) ?_
    have vq : ∀ k, k < pN (sP S) → X11_many (pV (o_hrs n (sP S)) k 1) = some (o_bc (pV (o_hrs n (sP S)) k 1)) := fun k hk2 => by
      obtain ⟨q, hq, e⟩ := (hk.1.2.2.2.1 k (by rw [hk.2.1]; exact hk2)).2.1
      rw [e]; exact t_many q hq
    by_cases z : pN (sP S) = 0
    · refine ⟨-1000000004, _, fun M h => ?_, fun M h => ?_, SO.q o (o_fq (sQ S) 3)⟩
      · obtain ⟨M2, e2, c2, f2⟩ := c_fd g o (k := 3) (x := -1000000004) (by decide) (by decide) M h
        exact ⟨M2, by show (if nI (pN (sP S)) = 0 then _ else _) = _; rw [if_pos ((o_n0 h8).mpr z), z_bpi]; exact e2, c2, f2⟩
      · obtain ⟨M1, e1, c1, f1⟩ := r_start g o h
        obtain ⟨M2, e2, c2, f2⟩ := r_goA g c1 ok (n := n) (by omega)
        obtain ⟨M3, e3, c3, c4, f3⟩ := r_back g o c2
        obtain ⟨M4, e4, c5, f4⟩ := r_fd g (k := 3) (x := -1000000004) (by decide) (by decide) M3 c4
        refine ⟨M4, ?_, c5, ((f1.tr f2).tr f3).tr f4⟩
        have c9 : o_R M2 (sz + 52) (o_hrs n (sP S)) := c2.1.1
        show ((X11_copyRow M (z_r Γ (sz + 51) 0) (z_r Γ (sz + 51) 3)).bind _) = _
        rw [e1, Option.bind_some, e2, Option.bind_some, X11_wisest_P39, show M2.1 (z_r Γ (sz + 51) 0) 0 = nI 0 from by rw [(gm g).1, c9.1, hk.2.1, z], if_pos (by decide), e3, Option.bind_some, z_bpi]
        unfold X11_orNone
        rw [if_neg (by decide), z_bpi]
        exact e4
    · refine ⟨nI (o_lb (fun k => o_bc (pV (o_hrs n (sP S)) k 1)) (pN (sP S) - 1) 1 0), S, fun M h => ?_, fun M h => ?_, o⟩
      · obtain ⟨M1, e1, c1, f1⟩ := c_bec18 g o h
        obtain ⟨M2, e2, c2, f2⟩ := c_go18 g c1 ok (n := n) (by omega)
        have lp : ∀ r f k (M : Zm), k + r = pN (sP S) → r < f → o_C M (sz + 18) (o_hrs n (sP S)) → (∀ j, j < k → M.1 (sz + 50) j = o_bc (pV (o_hrs n (sP S)) j 1)) → ∃ M', X10_wisest_P56 Γ f M sz (nI k) = some (nI (o_lb (fun k => o_bc (pV (o_hrs n (sP S)) k 1)) (pN (sP S) - 1) 1 0), M') ∧ o_F (o_A sz) M M' := by
          intro r
          induction r with
          | zero =>
            intro f k M hk2 hf hc hs
            obtain ⟨f, rfl⟩ : ∃ f', f = f' + 1 := ⟨f - 1, by omega⟩
            refine ⟨M, ?_, o_F.rf⟩
            rw [X10_wisest_P56, show M.1 (z_r Γ sz 1) 2 = nI (pN (sP S)) from by rw [(gx g).2.1, hc.1, hk.2.1], if_pos (nI_le (by omega) (by omega)), c_lb g (v := fun k => o_bc (pV (o_hrs n (sP S)) k 1)) (by omega) (by omega) (fun j hj => hs j (by omega))]
            rfl
          | succ r ih =>
            intro f k M hk2 hf hc hs
            obtain ⟨f, rfl⟩ : ∃ f', f = f' + 1 := ⟨f - 1, by omega⟩
            have s : o_A sz (sz + 50) := Or.inr rfl
            have F : o_F (o_A sz) M (z_i M (sz + 50) k (o_bc (pV (o_hrs n (sP S)) k 1))) := o_F.i s
            obtain ⟨M', e', f'⟩ := ih f (k + 1) (z_i M (sz + 50) k (o_bc (pV (o_hrs n (sP S)) k 1))) (by omega) (by omega) (hc.keep (by rw [hk.2.1]; exact h8) (fun b h1 h2 => z_i_ne (by omega))) (fun j hj => by
              rw [z_i_rd]
              by_cases c : j = k
              · rw [if_pos ⟨rfl, c⟩, c]
              · rw [if_neg (fun q => c q.2)]; exact hs j (by omega))
            refine ⟨M', ?_, F.tr f'⟩
            rw [X10_wisest_P56, show M.1 (z_r Γ sz 1) 2 = nI (pN (sP S)) from by rw [(gx g).2.1, hc.1, hk.2.1], if_neg (nI_ge (by omega) (by omega)), c_visA g (by omega), Option.bind_some, if_pos (z_ixn (by omega) (by decide)), nI_cl (by omega), (gx g).2.2.2.2.2.2.1, hc.2.2.2.2 k (by rw [hk.2.1]; omega) 1 (by decide), z_lts, nI_s]
            exact e'
        obtain ⟨M3, e3, f3⟩ := lp (pN (sP S)) 1000 0 M2 (by omega) (by omega) c2 (fun j hj => absurd hj (by omega))
        have F := ((f_18 f1).tr (f_18 f2)).tr f3
        refine ⟨M3, ?_, h.ah o F, f_AC F⟩
        show (if nI (pN (sP S)) = 0 then _ else _) = _
        rw [if_neg (fun q => z ((o_n0 h8).mp q)), e1, Option.bind_some, e2, Option.bind_some]
        exact e3
      · obtain ⟨M1, e1, c1, f1⟩ := r_start g o h
        obtain ⟨M2, e2, c2, f2⟩ := r_goA g c1 ok (n := n) (by omega)
        obtain ⟨M3, e3, c3, c4, f3⟩ := r_back g o c2
        refine ⟨M3, ?_, c4, (f1.tr f2).tr f3⟩
        have c9 : o_R M2 (sz + 52) (o_hrs n (sP S)) := c2.1.1
        have it : ∀ k, k < pN (sP S) → X11_its Γ M2 (sz + 51) (nI k) 1 = some (pV (o_hrs n (sP S)) k 1) := fun k hk2 => r_its (x := 1) (gm g).1 c9 (by rw [hk.2.1]; exact h8) (by rw [hk.2.1]; exact hk2) (j := 1) rfl (by decide)
        have sN0 : M2.1 (z_r Γ (sz + 51) 0) 0 = nI (pN (sP S)) := by rw [(gm g).1, c9.1, hk.2.1]
        have lp : ∀ r f k c, k + r = pN (sP S) → r < f → c < pN (sP S) → X11_wisest_P39 Γ f M2 (sz + 51) (nI c) (nI k) = some (nI (o_lb (fun k => o_bc (pV (o_hrs n (sP S)) k 1)) r k c), M3) := by
          intro r
          induction r with
          | zero =>
            intro f k c hk2 hf hc
            obtain ⟨f, rfl⟩ : ∃ f', f = f' + 1 := ⟨f - 1, by omega⟩
            rw [X11_wisest_P39, sN0, if_pos (nI_le (by omega) (by omega)), e3, Option.bind_some, r_orN (nI_pos' (by omega))]
            rfl
          | succ r ih =>
            intro f k c hk2 hf hc
            obtain ⟨f, rfl⟩ : ∃ f', f = f' + 1 := ⟨f - 1, by omega⟩
            rw [X11_wisest_P39, sN0, if_neg (nI_ge (by omega) (by omega)), if_neg (nI_pos (by omega)), it k (by omega), Option.bind_some, vq k (by omega), Option.bind_some, it c hc, Option.bind_some, vq c hc, Option.bind_some, nI_s, o_lb]
            split
            · exact ih f (k + 1) c (by omega) (by omega) hc
            · exact ih f (k + 1) k (by omega) (by omega) (by omega)
        show ((X11_copyRow M (z_r Γ (sz + 51) 0) (z_r Γ (sz + 51) 3)).bind _) = _
        rw [e1, Option.bind_some, e2, Option.bind_some, X11_wisest_P39, sN0, if_neg (nI_nle (by omega) (by omega)), if_pos (by decide)]
        exact lp (pN (sP S) - 1) 999 1 0 (by omega) (by omega) (by omega)
