theorem c_bec18 {Γ : Zg} {sz : Nat} (g : g_Ok Γ sz) {S : Sg} (o : SO S) {M : Zm} (h : SC sz M S) : ∃ M', X3_become Γ M (z_r Γ sz 1) (z_r Γ sz 0) = some M' ∧ o_C M' (sz + 18) (sP S) ∧ o_F (o_cS (sz + 18)) M M' := by
  obtain ⟨M', e', c', f'⟩ := c_bec (g_P18 g) (g_P8 g) (by omega) h.1 o.1.1.1
  exact ⟨M', by rw [(gx g).1, (gx g).2.1]; exact e', c', f'⟩
theorem c_go18 {Γ : Zg} {sz : Nat} (g : g_Ok Γ sz) {M : Zm} {Q : Pk} (h : o_C M (sz + 18) Q) (ok : o_ok Q) {n : Nat} (hn : n < 999) : ∃ M', X3_letHoursGo Γ M (z_r Γ sz 1) (nI n) = some M' ∧ o_C M' (sz + 18) (o_hrs n Q) ∧ o_F (o_cS (sz + 18)) M M' := by
  obtain ⟨M', e', c', f'⟩ := c_go (g_P18 g) hn h ok
  exact ⟨M', by rw [(gx g).2.1]; exact e', c', f'⟩
theorem c_score {sz : Nat} {M M1 : Zm} (f : o_F (o_cS (sz + 18)) M M1) (k : Nat) (x : Int32) : (z_i M1 (sz + 50) k x).1 (sz + 50) k = x ∧ (∀ j, j ≠ k → (z_i M1 (sz + 50) k x).1 (sz + 50) j = M.1 (sz + 50) j) ∧ o_F (o_A sz) M (z_i M1 (sz + 50) k x) := by
  have s : o_A sz (sz + 50) := Or.inr rfl
  refine ⟨by rw [z_i_rd, if_pos ⟨rfl, rfl⟩], fun j hj => ?_, (f_18 f).tr (o_F.i s)⟩
  rw [z_i_rd, if_neg (fun q => hj q.2), f.1 (sz + 50) (fun q => by have := q.2; omega)]
theorem t_bcR : ∀ q, q < 1024 → -1 < o_bc (nI q) := by decide +kernel
theorem i_le100 {b : Int32} {x : Int32} (h : ¬ (b < 1 ∨ x < b)) : ¬ b < 1 ∧ b ≤ x := ⟨fun q => h (Or.inl q), Int32.not_lt.mp (fun q => h (Or.inr q))⟩
theorem e_kind {Γ : Zg} {sz : Nat} (g : g_Ok Γ sz) {S : Sg} (o : SO S) (a b : Int32) : eS sz (fun M => X10_kind Γ M sz a b) (fun M => X11_kind Γ M (sz + 51) a b) S := by
  unfold X10_kind X11_kind
  refine eS.has g o a (fun i hi ea => ?_)
  subst ea
  have ok := o.1.1
  have h8 := ok.1
  by_cases d : b < 1 ∨ 100 < b
  · refine eS.fd g o 0 (x := -1000000001) (by decide) (by decide) (fun M _ => ?_) (fun M _ => by rw [if_pos ((x_in2 1 100 b (by decide) (by decide)).mpr d)])
    by_cases e : b < 1
    · rw [if_pos e]
    · rw [if_neg e, if_neg (fun q => Int32.not_le.mpr (d.resolve_left e) q)]
  · refine eS.ch (fun M h => by rw [if_neg (i_le100 d).1, if_pos (i_le100 d).2]) (fun M _ => by rw [if_neg (fun q => d ((x_in2 1 100 b (by decide) (by decide)).mp q))]) ?_
    obtain ⟨n, hn1, hn, rfl⟩ := i_lt1 (n := 100) (by decide) (fun q => d (Or.inl q)) (fun q => d (Or.inr q))
    have okk : ∀ k, k < 6 → o_ok (p_v (sP S) i 0 (nI k)) := fun k hk => ok.v (Or.inr (Or.inr (Or.inr (Or.inr ⟨rfl, k, hk, rfl⟩))))
    have hh : ∀ k, k < 6 → o_ok (o_hrs n (p_v (sP S) i 0 (nI k))) ∧ pN (o_hrs n (p_v (sP S) i 0 (nI k))) = pN (sP S) := fun k hk => ⟨(o_hrs_ok n (okk k hk)).1, (o_hrs_ok n (okk k hk)).2.1⟩
    have vq : ∀ k, k < 6 → ∃ q, q < 1024 ∧ pV (o_hrs n (p_v (sP S) i 0 (nI k))) i 1 = nI q := fun k hk => ((hh k hk).1.2.2.2.1 i (by rw [(hh k hk).2]; exact hi)).2.1
    have vr : ∀ k, k < 6 → -1 < o_bc (pV (o_hrs n (p_v (sP S) i 0 (nI k))) i 1) := fun k hk => by
      obtain ⟨q, hq, e⟩ := vq k hk
      rw [e]; exact t_bcR q hq
    refine e_best g o (v := fun k => o_bc (pV (o_hrs n (p_v (sP S) i 0 (nI k))) i 1)) (n := 6) (by decide) (by decide) (C := fun f M l => X10_kind_P31 Γ f M sz (nI i) (nI n) l) (L := fun f M b m l => X11_kind_P46 Γ f M (sz + 51) (nI i) (nI n) b m l) 0 (fun f M k hk h => ?_) (fun f M h => ?_) (fun f M b m k hk hm h => ?_) (fun f M b m hb => ?_) (Int32.le_of_lt (vr 0 (by decide))) ⟨0, by decide, vr 0 (by decide)⟩
    · obtain ⟨M1, e1, c1, f1⟩ := c_bec18 g o h
      have sv : o_cS (sz + 18) (sz + 18 + 2 + i) := ⟨by omega, by omega⟩
      have c2 := c1.v (i := i) (j := 0) (nI k) hi (by decide)
      have f2 : o_F (o_cS (sz + 18)) M1 (z_i M1 (sz + 18 + 2 + i) 0 (nI k)) := o_F.i sv
      obtain ⟨M3, e3, c3, f3⟩ := c_go18 g c2 (okk k hk) (n := n) (by omega)
      have F := (f1.tr f2).tr f3
      refine ⟨z_i M3 (sz + 50) k _, ?_, c_score F k _⟩
      have el : X10_learntAs Γ M sz (nI i) (nI k) (nI n) = some (o_bc (pV (o_hrs n (p_v (sP S) i 0 (nI k))) i 1), M3) := by
        unfold X10_learntAs
        rw [e1, Option.bind_some, c_visA g (by omega), Option.bind_some, z_lts, e3, Option.bind_some, c3.2.2.2.2 i (by rw [(hh k hk).2]; exact hi) 1 (by decide)]
        rfl
      show X10_kind_P31 Γ (f + 1) M sz (nI i) (nI n) (nI k) = _
      rw [X10_kind_P31, if_neg (by rw [show (6 : Int32) = nI 6 from rfl]; exact nI_ge (by omega) (by omega)), el, z_bps, if_pos (z_ixn (by omega) (by decide)), nI_cl (by omega), (gx g).2.2.2.2.2.2.1, z_lts]
    · show X10_kind_P31 Γ (f + 1) M sz (nI i) (nI n) (nI 6) = _
      rw [X10_kind_P31, if_pos (by decide)]
      rfl
    · have c2 := h.1.1.v (i := i) (j := 0) (nI k) hi (by decide)
      have f2 : o_F (o_rS (sz + 52)) M (z_i M (sz + 52) (4 + 6 * i + 0) (nI k)) := o_F.i rfl
      have h2 := h.st c2 f2
      obtain ⟨M3, e3, c3, f3⟩ := r_goA g h2 (okk k hk) (n := n) (by omega)
      obtain ⟨M4, e4, c4, _, f4⟩ := r_back g o c3
      refine ⟨M4, ?_, c4, ((f_52 f2).tr f3).tr f4⟩
      have c9 : o_R M3 (sz + 52) (o_hrs n (p_v (sP S) i 0 (nI k))) := c3.1.1
      have em : X11_many (pV (o_hrs n (p_v (sP S) i 0 (nI k))) i 1) = some (o_bc (pV (o_hrs n (p_v (sP S) i 0 (nI k))) i 1)) := by
        obtain ⟨q, hq, e⟩ := vq k hk
        rw [e]; exact t_many q hq
      show X11_kind_P46 Γ (f + 1) M (sz + 51) (nI i) (nI n) b m (nI k) = _
      rw [X11_kind_P46, if_neg (by rw [show (5 : Int32) = nI 5 from rfl]; exact nI_nlt (by omega) (by omega)), o_atJ (x := 0) (j := 0) rfl, if_pos (z_ixn (by omega) (by decide)), nI_cl (by omega), z_lts, show z_r Γ (sz + 51) 0 = sz + 52 from (gm g).1, e3, Option.bind_some, r_its (x := 1) (gm g).1 c9 (by rw [(hh k hk).2]; exact h8) (i := i) (by rw [(hh k hk).2]; exact hi) (j := 1) rfl (by decide), Option.bind_some, em, Option.bind_some]
      rw [(gm g).1] at e4
      rw [e4, Option.bind_some]
      by_cases q : o_bc (pV (o_hrs n (p_v (sP S) i 0 (nI k))) i 1) ≤ m
      · rw [if_pos q, if_pos q, if_pos q]
      · rw [if_neg q, if_neg q, if_neg q]
    · show X11_kind_P46 Γ (f + 1) M (sz + 51) (nI i) (nI n) b m (nI 6) = _
      rw [X11_kind_P46, if_pos (by decide)]
