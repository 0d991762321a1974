theorem o_foN {w : Nat → Int32} {B : Nat} : ∀ (r i s : Nat), (∀ k, i ≤ k → k < i + r → ∃ q, q ≤ B ∧ w k = nI q) → ∃ t, t ≤ s + r * B ∧ o_fo (fun i x => x + w i) r i (nI s) = nI t
  | 0, i, s, _ => ⟨s, by omega, rfl⟩
  | r + 1, i, s, h => by
    obtain ⟨q, hq, e⟩ := h i (by omega) (by omega)
    obtain ⟨t, ht, et⟩ := o_foN (w := w) (B := B) r (i + 1) (s + q) (fun k h1 h2 => h k (by omega) (by omega))
    refine ⟨t, ?_, ?_⟩
    · rw [Nat.succ_mul]; omega
    · rw [o_fo, e, nI_add]; exact et
theorem o_n8 {r B : Nat} (h : r ≤ 8) : 0 + r * B ≤ 8 * B := by
  rw [Nat.zero_add]; exact Nat.mul_le_mul_right B h
theorem i_m1n {t : Nat} (h : t < 2 ^ 31) : -1 < nI t := by
  rw [Int32.lt_iff_toInt_lt, nI_toInt h]
  have h1 : (-1 : Int32).toInt = -1 := rfl
  omega
theorem t_bcN : ∀ q, q < 1024 → ∃ t, t ≤ 10 ∧ o_bc (nI q) = nI t := by
  have h : ∀ q, q < 1024 → (o_bc (nI q)).toNatClampNeg ≤ 10 ∧ o_bc (nI q) = nI (o_bc (nI q)).toNatClampNeg := by decide +kernel
  exact fun q hq => ⟨_, (h q hq).1, (h q hq).2⟩
theorem o_belR {Q : Pk} (ok : o_ok Q) : -1 < o_bel Q := by
  obtain ⟨t, ht, e⟩ := o_foN (w := fun i => o_bc (pV Q i 2)) (B := 10) (pN Q) 0 0 (fun k _ hk => by
    obtain ⟨q, hq, e⟩ := (ok.2.2.2.1 k (by omega)).2.2.1
    rw [e]
    exact t_bcN q hq)
  have := o_n8 (B := 10) ok.1
  unfold o_bel
  rw [show (0 : Int32) = nI 0 from rfl, e]
  exact i_m1n (by omega)
theorem o_heardR {Q : Pk} (ok : o_ok Q) : -1 < o_heard Q := by
  obtain ⟨t, ht, e⟩ := o_foN (w := fun i => pV Q i 5) (B := 9999) (pN Q) 0 0 (fun k _ hk => (ok.2.2.2.1 k (by omega)).2.2.2.2)
  have := o_n8 (B := 9999) ok.1
  unfold o_heard
  rw [show (0 : Int32) = nI 0 from rfl, e]
  exact i_m1n (by omega)
theorem e_doubt {Γ : Zg} {sz : Nat} (g : g_Ok Γ sz) {S : Sg} (o : SO S) (b : Int32) : eS sz (fun M => X10_doubt Γ M sz b) (fun M => X11_doubt Γ M (sz + 51) b) S := by
  unfold X10_doubt X11_doubt
  have ok := o.1.1
  have h8 := ok.1
  by_cases d : b < 1 ∨ 60 < b
  · refine eS.fd g o 0 (x := -1000000001) (by decide) (by decide) (fun M _ => ?_) (fun M _ => by rw [if_pos ((x_in2 1 60 b (by decide) (by decide)).mpr d)])
    by_cases e : b < 1
    · rw [if_pos e]
    · rw [if_neg e, if_neg (fun q => Int32.not_le.mpr (d.resolve_left e) q)]
  · refine eS.ch (fun M h => by rw [if_neg (i_le100 d).1, if_pos (i_le100 d).2]) (fun M _ => by rw [if_neg (fun q => d ((x_in2 1 60 b (by decide) (by decide)).mp q))]) ?_
    obtain ⟨n, hn1, hn, rfl⟩ := i_lt1 (n := 60) (by decide) (fun q => d (Or.inl q)) (fun q => d (Or.inr q))
    have okk : ∀ k, k < 10 → o_ok (p_s (sP S) (pS (sP S) ^^^ ((1 : Int32) <<< (nI k &&& 31)))) := fun k hk => by
      obtain ⟨q, hq, e⟩ := ok.2.1
      rw [e, o_bit k hk, o_xorI]
      exact ok.s (Nat.xor_lt_two_pow (n := 10) hq (o_bitlt k hk))
    have hh : ∀ k, k < 10 → o_ok (o_hrs n (p_s (sP S) (pS (sP S) ^^^ ((1 : Int32) <<< (nI k &&& 31))))) ∧ pN (o_hrs n (p_s (sP S) (pS (sP S) ^^^ ((1 : Int32) <<< (nI k &&& 31))))) = pN (sP S) := fun k hk => ⟨(o_hrs_ok n (okk k hk)).1, (o_hrs_ok n (okk k hk)).2.1⟩
    have vr : ∀ k, k < 10 → -1 < o_bel (o_hrs n (p_s (sP S) (pS (sP S) ^^^ ((1 : Int32) <<< (nI k &&& 31))))) := fun k hk => o_belR (hh k hk).1
    refine e_best g o (v := fun k => o_bel (o_hrs n (p_s (sP S) (pS (sP S) ^^^ ((1 : Int32) <<< (nI k &&& 31)))))) (n := 10) (by decide) (by decide) (C := fun f M l => X10_doubt_P20 Γ f M sz (nI n) l) (L := fun f M b m l => X11_doubt_P37 Γ f M (sz + 51) (nI n) b m l) 0 (fun f M k hk h => ?_) (fun f M h => ?_) (fun f M b m k hk hm h => ?_) (fun f M b m hb => ?_) (Int32.le_of_lt (vr 0 (by decide))) ⟨0, by decide, vr 0 (by decide)⟩
    · obtain ⟨M1, e1, c1, f1⟩ := c_bec18 g o h
      have sv : o_cS (sz + 18) (sz + 18) := ⟨by omega, by omega⟩
      have c2 := c1.s (pS (sP S) ^^^ ((1 : Int32) <<< (nI k &&& 31)))
      have f2 : o_F (o_cS (sz + 18)) M1 (z_i M1 (sz + 18) 3 (pS (sP S) ^^^ ((1 : Int32) <<< (nI k &&& 31)))) := o_F.i sv
      obtain ⟨M3, e3, c3, f3⟩ := c_go18 g c2 (okk k hk) (n := n) (by omega)
      have F := (f1.tr f2).tr f3
      refine ⟨z_i M3 (sz + 50) k _, ?_, c_score F k _⟩
      have el : X10_believedIfTurned Γ M sz (nI k) (nI n) = some (o_bel (o_hrs n (p_s (sP S) (pS (sP S) ^^^ ((1 : Int32) <<< (nI k &&& 31))))), M3) := by
        unfold X10_believedIfTurned
        rw [(gx g).2.1] at e1 e3 ⊢
        rw [e1, Option.bind_some, z_lts, c1.2.1, e3, Option.bind_some, c_bel (g_P18 g) c3 (by rw [(hh k hk).2]; exact h8)]
        rfl
      show X10_doubt_P20 Γ (f + 1) M sz (nI n) (nI k) = _
      rw [X10_doubt_P20, if_neg (by rw [show (10 : Int32) = nI 10 from rfl]; exact nI_ge (by omega) (by omega)), el, z_bps, if_pos (z_ixn (by omega) (by decide)), nI_cl (by omega), (gx g).2.2.2.2.2.2.1, z_lts]
    · show X10_doubt_P20 Γ (f + 1) M sz (nI n) (nI 10) = _
      rw [X10_doubt_P20, if_pos (by decide)]
      rfl
    · have h9 : o_R M (sz + 52) (sP S) := h.1.1
      have c2 := h9.s (pS (sP S) ^^^ ((1 : Int32) <<< (nI k &&& 31)))
      have f2 : o_F (o_rS (sz + 52)) M (z_i M (sz + 52) 2 (pS (sP S) ^^^ ((1 : Int32) <<< (nI k &&& 31)))) := o_F.i rfl
      have h2 := h.st c2 f2
      obtain ⟨M3, e3, c3, f3⟩ := r_goA g h2 (okk k hk) (n := n) (by omega)
      obtain ⟨M4, e4, c4, _, f4⟩ := r_back g o c3
      refine ⟨M4, ?_, c4, ((f_52 f2).tr f3).tr f4⟩
      have c9 : o_R M3 (sz + 52) (o_hrs n (p_s (sP S) (pS (sP S) ^^^ ((1 : Int32) <<< (nI k &&& 31))))) := c3.1.1
      show X11_doubt_P37 Γ (f + 1) M (sz + 51) (nI n) b m (nI k) = _
      rw [X11_doubt_P37, if_neg (by rw [show (10 : Int32) = nI 10 from rfl]; exact nI_ge (by omega) (by omega)), z_lts, show z_r Γ (sz + 51) 0 = sz + 52 from (gm g).1, h9.2.1, e3, Option.bind_some, r_bel (gm g).1 c9 (hh k hk).1, Option.bind_some]
      rw [(gm g).1] at e4
      rw [e4, Option.bind_some]
      by_cases q : o_bel (o_hrs n (p_s (sP S) (pS (sP S) ^^^ ((1 : Int32) <<< (nI k &&& 31))))) ≤ m
      · rw [if_pos q, if_pos q, if_pos q]
      · rw [if_neg q, if_neg q, if_neg q]
    · show X11_doubt_P37 Γ (f + 1) M (sz + 51) (nI n) b m (nI 10) = _
      rw [X11_doubt_P37, if_pos (by decide)]
