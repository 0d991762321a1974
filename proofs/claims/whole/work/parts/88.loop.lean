/-! the law's loop, over the pure side -/
theorem g_Mr (sz k j : Nat) : (g_M sz).1 (sz + k) j = (g_I.getD k []).getD j 0 := by
  show (g_I.getD (sz + k - sz) []).getD j 0 = _
  rw [Nat.add_sub_cancel_left]
def s_0 : Sg := ((0, 0, 0, -1, fun _ _ => 0), (0, 0, 0, -1, fun _ _ => 0), 0, 0, fun _ => 0, fun _ => 0, fun _ => 0, fun _ _ => 0, fun _ => 0)
theorem t_58 : ∀ t, t < 4 → (g_I.getD 58 []).getD t 0 = -1 ∧ (g_I.getD 59 []).getD t 0 = 0 ∧ (g_I.getD (41 + 2 * t) []).getD 1 0 = 0 ∧ (g_I.getD (41 + 2 * t) []).getD 2 0 = 0 := by decide +kernel
theorem t_56 : ∀ t, t < 8 → (g_I.getD 56 []).getD t 0 = 0 ∧ (g_I.getD 49 []).getD t 0 = 0 := by decide +kernel
theorem b_0 (sz : Nat) : bO sz (g_M sz) := by
  refine ⟨s_0, ⟨⟨⟨by decide, ⟨0, by decide, rfl⟩, Or.inl rfl, fun i hi => absurd hi (Nat.not_lt_zero i), fun i j hi => absurd hi (Nat.not_lt_zero i)⟩, 0, by decide, rfl⟩, Or.inl rfl, ⟨by decide, fun k hk => absurd hk (Nat.not_lt_zero k)⟩, fun t _ => ⟨Or.inl rfl, by show (0 : Nat) ≤ 40; omega⟩⟩, ?_, ?_⟩
  · refine ⟨⟨by rw [g_Mr]; rfl, by rw [g_Mr]; rfl, by rw [g_Mr]; rfl, by rw [g_Mr]; rfl, fun i hi => absurd hi (Nat.not_lt_zero i)⟩, ⟨by rw [show (g_M sz).1 sz 3 = (g_M sz).1 (sz + 0) 3 from rfl, g_Mr]; rfl, fun q => absurd rfl q⟩, ⟨by rw [g_Mr]; rfl, fun k hk => absurd hk (Nat.not_lt_zero k)⟩, fun t ht => ⟨?_, ?_, fun k hk => absurd hk (Nat.not_lt_zero k)⟩, fun k hk => ?_⟩
    · rw [Nat.add_assoc, g_Mr]; exact (t_58 t ht).2.2.1
    · rw [Nat.add_assoc, g_Mr]; exact (t_58 t ht).2.2.2
    · rw [g_Mr]; exact (t_56 k (by omega)).2
  · refine ⟨⟨by rw [g_Mr]; rfl, by rw [g_Mr]; rfl, by rw [g_Mr]; rfl, by rw [g_Mr]; rfl, fun i hi => absurd hi (Nat.not_lt_zero i)⟩, ⟨by rw [g_Mr]; rfl, fun q => absurd rfl q⟩, ⟨by rw [g_Mr]; rfl, fun k hk => absurd hk (Nat.not_lt_zero k)⟩, fun t ht => ⟨?_, ?_, fun k hk => absurd hk (Nat.not_lt_zero k)⟩, ?_, fun k hk => ?_⟩
    · rw [g_Mr]; exact (t_58 t ht).1
    · rw [g_Mr]; exact (t_58 t ht).2.1
    · rw [g_Mr]; rfl
    · rw [g_Mr]; exact (t_56 (k + 1) (by omega)).1
theorem i_L6 {L i : Nat} (hL : L ≤ 3072) (hi : i ≤ L) : nI L - 6 < nI i ↔ L < i + 6 := by
  rw [show (6 : Int32) = nI 6 from rfl, Int32.lt_iff_toInt_lt, nI_toInt (by omega), Int32.toInt_sub, nI_toInt (by omega), nI_toInt (by omega), Int.bmod_def]
  split <;> omega
theorem l_loop {Γ : Zg} {sz : Nat} (g : g_Ok Γ sz) {xs : Nat → Int32} {L : Nat} (hL : L ≤ 3072) : ∀ (f i : Nat) (M : Zm), bO sz M → i ≤ L → L < i + 6 * f → L_law_P18 Γ xs L f M sz (sz + 51) (nI i) = some 1
  | 0, i, M, _, h1, h2 => absurd h2 (by omega)
  | f + 1, i, M, hb, h1, h2 => by
    rw [L_law_P18]
    by_cases q : nI L - 6 < nI i
    · rw [if_pos q]
    have q' : ¬ L < i + 6 := fun e => q ((i_L6 hL h1).mpr e)
    have K : ∀ M', bO sz M' → L_law_P18 Γ xs L f M' sz (sz + 51) (nI (i + 6)) = some 1 := fun M' hb' => l_loop g hL f (i + 6) M' hb' (by omega) (by omega)
    have z : ∀ k, k < 6 → z_ix (nI (i + k)) L = true := fun k hk => z_ixn (by omega) (by omega)
    have c : ∀ k, k < 6 → (nI (i + k)).toNatClampNeg = i + k := fun k hk => nI_cl (by omega)
    have z0 : z_ix (nI i) L = true := z_ixn (by omega) (by omega)
    have z1 := z 1 (by decide)
    have z2 := z 2 (by decide)
    have z3 := z 3 (by decide)
    have z4 := z 4 (by decide)
    have z5 := z 5 (by decide)
    have a1 : nI i + (1 : Int32) = nI (i + 1) := nI_add i 1
    have a2 : nI i + (2 : Int32) = nI (i + 2) := nI_add i 2
    have a3 : nI i + (3 : Int32) = nI (i + 3) := nI_add i 3
    have a4 : nI i + (4 : Int32) = nI (i + 4) := nI_add i 4
    have a5 : nI i + (5 : Int32) = nI (i + 5) := nI_add i 5
    have a6 : nI i + (6 : Int32) = nI (i + 6) := nI_add i 6
    have c0 : (nI i).toNatClampNeg = i := nI_cl (by omega)
    rw [if_neg q, if_pos z0, a1, a2, a3, a4, a5, a6, c0, c 1 (by decide), c 2 (by decide), c 3 (by decide), c 4 (by decide), c 5 (by decide)]
    by_cases h0 : xs i &&& (63 : Int32) = (0 : Int32)
    · rw [if_pos h0, if_pos z1]
      obtain ⟨r, M1, M2, e1, e2, b2⟩ := eO.go (fun S o => e_sham g o (xs (i + 1))) hb
      rw [show X10_sham Γ M sz (xs (i + 1)) = _ from e1, z_bps, if_pos z1, show X11_sham Γ M1 (sz + 51) (xs (i + 1)) = _ from e2, z_bps, if_pos (rfl)]
      exact K M2 b2
    rw [if_neg h0]
    by_cases h1 : xs i &&& (63 : Int32) = (1 : Int32)
    · rw [if_pos h1, if_pos z1, if_pos z2]
      obtain ⟨r, M1, M2, e1, e2, b2⟩ := eO.go (fun S o => e_who g o (xs (i + 1)) (xs (i + 2))) hb
      rw [show X10_who Γ M sz (xs (i + 1)) (xs (i + 2)) = _ from e1, z_bps, if_pos z1, if_pos z2, show X11_who Γ M1 (sz + 51) (xs (i + 1)) (xs (i + 2)) = _ from e2, z_bps, if_pos (rfl)]
      exact K M2 b2
    rw [if_neg h1]
    by_cases h2 : xs i &&& (63 : Int32) = (2 : Int32)
    · rw [if_pos h2, if_pos z1]
      obtain ⟨r, M1, M2, e1, e2, b2⟩ := eO.go (fun S o => e_person g o (xs (i + 1))) hb
      rw [show X10_person Γ M sz (xs (i + 1)) = _ from e1, z_bps, if_pos z1, show X11_person Γ M1 (sz + 51) (xs (i + 1)) = _ from e2, z_bps, if_pos (rfl)]
      exact K M2 b2
    rw [if_neg h2]
    by_cases h3 : xs i &&& (63 : Int32) = (3 : Int32)
    · rw [if_pos h3, if_pos z1, if_pos z2]
      obtain ⟨r, M1, M2, e1, e2, b2⟩ := eO.go (fun S o => e_of g o (xs (i + 1)) (xs (i + 2))) hb
      rw [show X10_of Γ M sz (xs (i + 1)) (xs (i + 2)) = _ from e1, z_bps, if_pos z1, if_pos z2, show X11_of Γ M1 (sz + 51) (xs (i + 1)) (xs (i + 2)) = _ from e2, z_bps, if_pos (rfl)]
      exact K M2 b2
    rw [if_neg h3]
    by_cases h4 : xs i &&& (63 : Int32) = (4 : Int32)
    · rw [if_pos h4, if_pos z1, if_pos z2, if_pos z3]
      obtain ⟨r, M1, M2, e1, e2, b2⟩ := eO.go (fun S o => e_set g o (xs (i + 1)) (xs (i + 2)) (xs (i + 3))) hb
      rw [show X10_set Γ M sz (xs (i + 1)) (xs (i + 2)) (xs (i + 3)) = _ from e1, z_bps, if_pos z1, if_pos z2, if_pos z3, show X11_set Γ M1 (sz + 51) (xs (i + 1)) (xs (i + 2)) (xs (i + 3)) = _ from e2, z_bps, if_pos (rfl)]
      exact K M2 b2
    rw [if_neg h4]
    by_cases h5 : xs i &&& (63 : Int32) = (5 : Int32)
    · rw [if_pos h5, if_pos z1, if_pos z2]
      obtain ⟨r, M1, M2, e1, e2, b2⟩ := eO.go (fun S o => e_turn g o (xs (i + 1)) (xs (i + 2))) hb
      rw [show X10_turn Γ M sz (xs (i + 1)) (xs (i + 2)) = _ from e1, z_bps, if_pos z1, if_pos z2, show X11_turn Γ M1 (sz + 51) (xs (i + 1)) (xs (i + 2)) = _ from e2, z_bps, if_pos (rfl)]
      exact K M2 b2
    rw [if_neg h5]
    by_cases h6 : xs i &&& (63 : Int32) = (6 : Int32)
    · rw [if_pos h6, if_pos z1, if_pos z2]
      obtain ⟨r, M1, M2, e1, e2, b2⟩ := eO.go (fun S o => e_as g o (xs (i + 1)) (xs (i + 2))) hb
      rw [show X10_as Γ M sz (xs (i + 1)) (xs (i + 2)) = _ from e1, z_bps, if_pos z1, if_pos z2, show X11_as Γ M1 (sz + 51) (xs (i + 1)) (xs (i + 2)) = _ from e2, z_bps, if_pos (rfl)]
      exact K M2 b2
    rw [if_neg h6]
    by_cases h7 : xs i &&& (63 : Int32) = (7 : Int32)
    · rw [if_pos h7, if_pos z1, if_pos z2]
      obtain ⟨r, M1, M2, e1, e2, b2⟩ := eO.go (fun S o => e_sit g o (xs (i + 1)) (xs (i + 2))) hb
      rw [show X10_sit Γ M sz (xs (i + 1)) (xs (i + 2)) = _ from e1, z_bps, if_pos z1, if_pos z2, show X11_sit Γ M1 (sz + 51) (xs (i + 1)) (xs (i + 2)) = _ from e2, z_bps, if_pos (rfl)]
      exact K M2 b2
    rw [if_neg h7]
    by_cases h8 : xs i &&& (63 : Int32) = (8 : Int32)
    · rw [if_pos h8, if_pos z1, if_pos z2]
      obtain ⟨r, M1, M2, e1, e2, b2⟩ := eO.go (fun S o => e_trusts g o (xs (i + 1)) (xs (i + 2))) hb
      rw [show X10_trusts Γ M sz (xs (i + 1)) (xs (i + 2)) = _ from e1, z_bps, if_pos z1, if_pos z2, show X11_trusts Γ M1 (sz + 51) (xs (i + 1)) (xs (i + 2)) = _ from e2, z_bps, if_pos (rfl)]
      exact K M2 b2
    rw [if_neg h8]
    by_cases h9 : xs i &&& (63 : Int32) = (9 : Int32)
    · rw [if_pos h9, if_pos z1]
      obtain ⟨r, M1, M2, e1, e2, b2⟩ := eO.go (fun S o => e_hours g o (xs (i + 1))) hb
      rw [show X10_hours Γ M sz (xs (i + 1)) = _ from e1, z_bps, if_pos z1, show X11_hours Γ M1 (sz + 51) (xs (i + 1)) = _ from e2, z_bps, if_pos (rfl)]
      exact K M2 b2
    rw [if_neg h9]
    by_cases h10 : xs i &&& (63 : Int32) = (10 : Int32)
    · rw [if_pos h10, if_pos z1]
      obtain ⟨r, M1, M2, e1, e2, b2⟩ := eO.go (fun S o => e_now g o (xs (i + 1))) hb
      rw [show X10_now Γ M sz (xs (i + 1)) = _ from e1, z_bps, if_pos z1, show X11_now Γ M1 (sz + 51) (xs (i + 1)) = _ from e2, z_bps, if_pos (rfl)]
      exact K M2 b2
    rw [if_neg h10]
    by_cases h11 : xs i &&& (63 : Int32) = (11 : Int32)
    · rw [if_pos h11, if_pos z1, if_pos z2, if_pos z3]
      obtain ⟨r, M1, M2, e1, e2, b2⟩ := eO.go (fun S o => e_on g o (xs (i + 1)) (xs (i + 2)) (xs (i + 3))) hb
      rw [show X10_on Γ M sz (xs (i + 1)) (xs (i + 2)) (xs (i + 3)) = _ from e1, z_bps, if_pos z1, if_pos z2, if_pos z3, show X11_on Γ M1 (sz + 51) (xs (i + 1)) (xs (i + 2)) (xs (i + 3)) = _ from e2, z_bps, if_pos (rfl)]
      exact K M2 b2
    rw [if_neg h11]
    by_cases h12 : xs i &&& (63 : Int32) = (12 : Int32)
    · rw [if_pos h12, if_pos z1, if_pos z2]
      obtain ⟨r, M1, M2, e1, e2, b2⟩ := eO.go (fun S o => e_knows g o (xs (i + 1)) (xs (i + 2))) hb
      rw [show X10_knows Γ M sz (xs (i + 1)) (xs (i + 2)) = _ from e1, z_bps, if_pos z1, if_pos z2, show X11_knows Γ M1 (sz + 51) (xs (i + 1)) (xs (i + 2)) = _ from e2, z_bps, if_pos (rfl)]
      exact K M2 b2
    rw [if_neg h12]
    by_cases h13 : xs i &&& (63 : Int32) = (13 : Int32)
    · rw [if_pos h13, if_pos z1]
      obtain ⟨r, M1, M2, e1, e2, b2⟩ := eO.go (fun S o => e_out g o (xs (i + 1))) hb
      rw [show X10_out Γ M sz (xs (i + 1)) = _ from e1, z_bps, if_pos z1, show X11_out Γ M1 (sz + 51) (xs (i + 1)) = _ from e2, z_bps, if_pos (rfl)]
      exact K M2 b2
    rw [if_neg h13]
    by_cases h14 : xs i &&& (63 : Int32) = (14 : Int32)
    · rw [if_pos h14, if_pos z1, if_pos z2]
      obtain ⟨r, M1, M2, e1, e2, b2⟩ := eO.go (fun S o => e_meet g o (xs (i + 1)) (xs (i + 2))) hb
      rw [show X10_meet Γ M sz (xs (i + 1)) (xs (i + 2)) = _ from e1, z_bps, if_pos z1, if_pos z2, show X11_meet Γ M1 (sz + 51) (xs (i + 1)) (xs (i + 2)) = _ from e2, z_bps, if_pos (rfl)]
      exact K M2 b2
    rw [if_neg h14]
    by_cases h15 : xs i &&& (63 : Int32) = (15 : Int32)
    · rw [if_pos h15, if_pos z1, if_pos z2]
      obtain ⟨r, M1, M2, e1, e2, b2⟩ := eO.go (fun S o => e_kind g o (xs (i + 1)) (xs (i + 2))) hb
      rw [show X10_kind Γ M sz (xs (i + 1)) (xs (i + 2)) = _ from e1, z_bps, if_pos z1, if_pos z2, show X11_kind Γ M1 (sz + 51) (xs (i + 1)) (xs (i + 2)) = _ from e2, z_bps, if_pos (rfl)]
      exact K M2 b2
    rw [if_neg h15]
    by_cases h16 : xs i &&& (63 : Int32) = (16 : Int32)
    · rw [if_pos h16, if_pos z1, if_pos z2]
      obtain ⟨r, M1, M2, e1, e2, b2⟩ := eO.go (fun S o => e_forget g o (xs (i + 1)) (xs (i + 2))) hb
      rw [show X10_forget Γ M sz (xs (i + 1)) (xs (i + 2)) = _ from e1, z_bps, if_pos z1, if_pos z2, show X11_forget Γ M1 (sz + 51) (xs (i + 1)) (xs (i + 2)) = _ from e2, z_bps, if_pos (rfl)]
      exact K M2 b2
    rw [if_neg h16]
    by_cases h17 : xs i &&& (63 : Int32) = (17 : Int32)
    · rw [if_pos h17, if_pos z1, if_pos z2]
      obtain ⟨r, M1, M2, e1, e2, b2⟩ := eO.go (fun S o => e_confide g o (xs (i + 1)) (xs (i + 2))) hb
      rw [show X10_confide Γ M sz (xs (i + 1)) (xs (i + 2)) = _ from e1, z_bps, if_pos z1, if_pos z2, show X11_confide Γ M1 (sz + 51) (xs (i + 1)) (xs (i + 2)) = _ from e2, z_bps, if_pos (rfl)]
      exact K M2 b2
    rw [if_neg h17]
    by_cases h18 : xs i &&& (63 : Int32) = (18 : Int32)
    · rw [if_pos h18, if_pos z1, if_pos z2]
      obtain ⟨r, M1, M2, e1, e2, b2⟩ := eO.go (fun S o => e_enough g o (xs (i + 1)) (xs (i + 2))) hb
      rw [show X10_enough Γ M sz (xs (i + 1)) (xs (i + 2)) = _ from e1, z_bps, if_pos z1, if_pos z2, show X11_enough Γ M1 (sz + 51) (xs (i + 1)) (xs (i + 2)) = _ from e2, z_bps, if_pos (rfl)]
      exact K M2 b2
    rw [if_neg h18]
    by_cases h19 : xs i &&& (63 : Int32) = (19 : Int32)
    · rw [if_pos h19, if_pos z1]
      obtain ⟨r, M1, M2, e1, e2, b2⟩ := eO.go (fun S o => e_doubt g o (xs (i + 1))) hb
      rw [show X10_doubt Γ M sz (xs (i + 1)) = _ from e1, z_bps, if_pos z1, show X11_doubt Γ M1 (sz + 51) (xs (i + 1)) = _ from e2, z_bps, if_pos (rfl)]
      exact K M2 b2
    rw [if_neg h19]
    by_cases h20 : xs i &&& (63 : Int32) = (20 : Int32)
    · rw [if_pos h20, if_pos z1]
      obtain ⟨r, M1, M2, e1, e2, b2⟩ := eO.go (fun S o => e_wisest g o (xs (i + 1))) hb
      rw [show X10_wisest Γ M sz (xs (i + 1)) = _ from e1, z_bps, if_pos z1, show X11_wisest Γ M1 (sz + 51) (xs (i + 1)) = _ from e2, z_bps, if_pos (rfl)]
      exact K M2 b2
    rw [if_neg h20]
    by_cases h21 : xs i &&& (63 : Int32) = (21 : Int32)
    · rw [if_pos h21, if_pos z1, if_pos z2]
      obtain ⟨r, M1, M2, e1, e2, b2⟩ := eO.go (fun S o => e_feed g o (xs (i + 1)) (xs (i + 2))) hb
      rw [show X10_feed Γ M sz (xs (i + 1)) (xs (i + 2)) = _ from e1, z_bps, if_pos z1, if_pos z2, show X11_feed Γ M1 (sz + 51) (xs (i + 1)) (xs (i + 2)) = _ from e2, z_bps, if_pos (rfl)]
      exact K M2 b2
    rw [if_neg h21]
    by_cases h22 : xs i &&& (63 : Int32) = (22 : Int32)
    · rw [if_pos h22]
      obtain ⟨r, M1, M2, e1, e2, b2⟩ := eO.go (fun S o => e_wipe g o) hb
      rw [show X10_wipe Γ M sz = _ from Option.some.inj e1, z_lps, show X11_wipe M1 (sz + 51) = _ from Option.some.inj e2, z_lps, if_pos (rfl)]
      exact K M2 b2
    rw [if_neg h22]
    by_cases h23 : xs i &&& (63 : Int32) = (23 : Int32)
    · rw [if_pos h23]
      obtain ⟨r, M1, M2, e1, e2, b2⟩ := eO.go (fun S o => e_park g o) hb
      rw [show X10_park Γ M sz = _ from e1, z_bps, show X11_park Γ M1 (sz + 51) = _ from e2, z_bps, if_pos (rfl)]
      exact K M2 b2
    rw [if_neg h23]
    by_cases h24 : xs i &&& (63 : Int32) = (24 : Int32)
    · rw [if_pos h24, if_pos z1, if_pos z2, if_pos z3]
      obtain ⟨r, M1, M2, e1, e2, b2⟩ := eO.go (fun S o => e_sheet g o (xs (i + 1)) (xs (i + 2)) (xs (i + 3))) hb
      rw [show X10_sheet Γ M sz (xs (i + 1)) (xs (i + 2)) (xs (i + 3)) = _ from e1, z_bps, if_pos z1, if_pos z2, if_pos z3, show X11_sheet Γ M1 (sz + 51) (xs (i + 1)) (xs (i + 2)) (xs (i + 3)) = _ from e2, z_bps, if_pos (rfl)]
      exact K M2 b2
    rw [if_neg h24]
    by_cases h25 : xs i &&& (63 : Int32) = (25 : Int32)
    · rw [if_pos h25, if_pos z1, if_pos z2, if_pos z3, if_pos z4]
      obtain ⟨r, M1, M2, e1, e2, b2⟩ := eO.go (fun S o => e_write g o (xs (i + 1)) (xs (i + 2)) ((((xs (i + 3)).toInt64) <<< ((32 : Int32).toInt64 &&& 63)) ||| (((xs (i + 4)).toInt64) &&& (4294967295 : Int64)))) hb
      rw [show X10_write Γ M sz (xs (i + 1)) (xs (i + 2)) ((((xs (i + 3)).toInt64) <<< ((32 : Int32).toInt64 &&& 63)) ||| (((xs (i + 4)).toInt64) &&& (4294967295 : Int64))) = _ from e1, z_bps, if_pos z1, if_pos z2, if_pos z3, if_pos z4, show X11_write Γ M1 (sz + 51) (xs (i + 1)) (xs (i + 2)) ((((xs (i + 3)).toInt64) <<< ((32 : Int32).toInt64 &&& 63)) ||| (((xs (i + 4)).toInt64) &&& (4294967295 : Int64))) = _ from e2, z_bps, if_pos ((lg_cmp_eq _ _).mpr rfl)]
      exact K M2 b2
    rw [if_neg h25]
    by_cases h26 : xs i &&& (63 : Int32) = (26 : Int32)
    · rw [if_pos h26, if_pos z1, if_pos z2, if_pos z3, if_pos z4, if_pos z5]
      obtain ⟨r, M1, M2, e1, e2, b2⟩ := eO.go (fun S o => e_copy g o (xs (i + 1)) (xs (i + 2)) (xs (i + 3)) (xs (i + 4)) (xs (i + 5))) hb
      rw [show X10_copy Γ M sz (xs (i + 1)) (xs (i + 2)) (xs (i + 3)) (xs (i + 4)) (xs (i + 5)) = _ from e1, z_bps, if_pos z1, if_pos z2, if_pos z3, if_pos z4, if_pos z5, show X11_copy Γ M1 (sz + 51) (xs (i + 1)) (xs (i + 2)) (xs (i + 3)) (xs (i + 4)) (xs (i + 5)) = _ from e2, z_bps, if_pos (rfl)]
      exact K M2 b2
    rw [if_neg h26]
    by_cases h27 : xs i &&& (63 : Int32) = (27 : Int32)
    · rw [if_pos h27, if_pos z1]
      obtain ⟨r, M1, M2, e1, e2, b2⟩ := eO.go (fun S o => e_lays g o (xs (i + 1))) hb
      rw [show X10_lays Γ M sz (xs (i + 1)) = _ from e1, z_bps, if_pos z1, show X11_lays Γ M1 (sz + 51) (xs (i + 1)) = _ from e2, z_bps, if_pos (rfl)]
      exact K M2 b2
    rw [if_neg h27]
    by_cases h28 : xs i &&& (63 : Int32) = (28 : Int32)
    · rw [if_pos h28, if_pos z1, if_pos z2]
      obtain ⟨r, M1, M2, e1, e2, b2⟩ := eO.go (fun S o => e_book g o (xs (i + 1)) (xs (i + 2))) hb
      rw [show X10_book Γ M sz (xs (i + 1)) (xs (i + 2)) = _ from e1, z_bps, if_pos z1, if_pos z2, show X11_book Γ M1 (sz + 51) (xs (i + 1)) (xs (i + 2)) = _ from e2, z_bps, if_pos (rfl)]
      exact K M2 b2
    rw [if_neg h28]
    by_cases h29 : xs i &&& (63 : Int32) = (29 : Int32)
    · rw [if_pos h29, if_pos z1, if_pos z2, if_pos z3]
      obtain ⟨r, M1, M2, e1, e2, b2⟩ := eO.go (fun S o => e_read g o (xs (i + 1)) (xs (i + 2)) (xs (i + 3))) hb
      rw [show X10_read Γ M sz (xs (i + 1)) (xs (i + 2)) (xs (i + 3)) = _ from e1, z_bps, if_pos z1, if_pos z2, if_pos z3, show X11_read Γ M1 (sz + 51) (xs (i + 1)) (xs (i + 2)) (xs (i + 3)) = _ from e2, z_bps, if_pos (rfl)]
      exact K M2 b2
    rw [if_neg h29]
    by_cases h30 : xs i &&& (63 : Int32) = (30 : Int32)
    · rw [if_pos h30]
      obtain ⟨r, M1, M2, e1, e2, b2⟩ := eO.go (fun S o => e_image g o) hb
      rw [show X10_image Γ M sz = _ from e1, z_bps, show X11_image Γ M1 (sz + 51) = _ from e2, z_bps, if_pos (rfl)]
      exact K M2 b2
    rw [if_neg h30]
    by_cases h31 : xs i &&& (63 : Int32) = (31 : Int32)
    · rw [if_pos h31]
      obtain ⟨r, M1, M2, e1, e2, b2⟩ := eO.go (fun S o => e_undo g o) hb
      rw [show X10_undo Γ M sz = _ from e1, z_bps, show X11_undo Γ M1 (sz + 51) = _ from e2, z_bps, if_pos (rfl)]
      exact K M2 b2
    rw [if_neg h31]
    by_cases h32 : xs i &&& (63 : Int32) = (32 : Int32)
    · rw [if_pos h32]
      obtain ⟨r, M1, M2, e1, e2, b2⟩ := eO.go (fun S o => e_tear o) hb
      rw [show X10_tear M sz = _ from Option.some.inj e1, z_lps, show X11_tear M1 (sz + 51) = _ from Option.some.inj e2, z_lps, if_pos (rfl)]
      exact K M2 b2
    rw [if_neg h32]
    by_cases h33 : xs i &&& (63 : Int32) = (33 : Int32)
    · rw [if_pos h33, if_pos z1]
      obtain ⟨r, M1, M2, e1, e2, b2⟩ := eO.go (fun S o => e_count g o (xs (i + 1))) hb
      rw [show X10_count Γ M sz (xs (i + 1)) = _ from e1, z_bps, if_pos z1, show X11_count Γ M1 (sz + 51) (xs (i + 1)) = _ from e2, z_bps, if_pos (rfl)]
      exact K M2 b2
    rw [if_neg h33]
    by_cases h34 : xs i &&& (63 : Int32) = (34 : Int32)
    · rw [if_pos h34, if_pos z1]
      obtain ⟨r, M1, M2, e1, e2, b2⟩ := eO.go (fun S o => e_status g o (xs (i + 1))) hb
      rw [show X10_status Γ M sz (xs (i + 1)) = _ from e1, z_bps, if_pos z1, show X11_status Γ M1 (sz + 51) (xs (i + 1)) = _ from e2, z_bps, if_pos (rfl)]
      exact K M2 b2
    rw [if_neg h34]
    exact K M hb
