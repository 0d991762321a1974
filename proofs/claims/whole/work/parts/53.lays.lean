/-! lays: numbers of a sheet become what people know -/
def o_lay (u : Nat → Int64) : Nat → Nat → Int32 → Pk → Int32 × Pk
  | 0, _, c, P => (c, P)
  | r + 1, i, c, P => if u i < 0 ∨ 1023 < u i then o_lay u r (i + 1) c P else o_lay u r (i + 1) (c + 1) (o_lj P i (u i).toInt32)
theorem i_64 {v : Int64} (h : ¬ (v < 0 ∨ 1023 < v)) : ∃ q, q < 1024 ∧ v.toInt32 = nI q := by
  have h1 : ¬ v.toInt < 0 := fun q => h (Or.inl (Int64.lt_iff_toInt_lt.mpr q))
  have h2 : ¬ 1023 < v.toInt := fun q => h (Or.inr (Int64.lt_iff_toInt_lt.mpr q))
  refine ⟨v.toInt.toNat, by omega, ?_⟩
  refine Int32.toInt_inj.mp ?_
  rw [nI_toInt (by omega), Int64.toInt_toInt32, Int.bmod_def]
  split <;> omega
theorem o_lay_ok (u : Nat → Int64) : ∀ (r i : Nat) (c : Int32) {P : Pk}, i + r ≤ pN P → o_kh P → o_kh (o_lay u r i c P).2
  | 0, _, _, _, _, h => h
  | r + 1, i, c, P, hi, h => by
    rw [o_lay]
    by_cases d : u i < 0 ∨ 1023 < u i
    · rw [if_pos d]; exact o_lay_ok u r (i + 1) c (by omega) h
    · rw [if_neg d]
      obtain ⟨q, hq, e⟩ := i_64 d
      rw [e]
      exact o_lay_ok u r (i + 1) (c + 1) (P := o_lj P i (nI q)) (by show i + 1 + r ≤ pN P; omega) ⟨o_lj_ok h.1 (by omega) hq, h.2⟩
theorem x_in64 (v : Int64) : X11_isIn v (0 : Int64) (1023 : Int64) = 0 ↔ (v < 0 ∨ 1023 < v) := by
  unfold X11_isIn
  simp only [lg_cmp_lt, lg_cmp_gt]
  exact o_2if
theorem c_layL {Γ : Zg} {sz : Nat} (g : g_Ok Γ sz) {S : Sg} (o : SO S) {t : Nat} (ht : t < 4) : ∀ (r f i : Nat) (c : Int32) {P : Pk} {M : Zm}, SC sz M (uP S P) → o_kh P → pN P = pN (sP S) → i + r = min (sZ S t) (pN (sP S)) → r < f → ∃ M', X10_lays_P29 Γ f M sz (sz + 41 + 2 * t) c (nI i) = some ((o_lay (sU S t) r i c P).1, M') ∧ SC sz M' (uP S (o_lay (sU S t) r i c P).2) ∧ fC sz M M'
  | 0, f + 1, i, c, P, M, h, k, hn, hi, _ => by
    have h8 := o.1.1.1
    have h40 := (o.2.2.2 t ht).2
    have hs : M.1 (sz + 41 + 2 * t) 2 = nI (sZ S t) := (h.2.2.2.1 t ht).2.1
    have hp : M.1 (z_r Γ sz 0) 2 = nI (pN (sP S)) := by rw [(gx g).1, ← hn]; exact h.1.1
    refine ⟨M, ?_, h, fC.rf⟩
    rw [X10_lays_P29, hs, hp]
    by_cases d : sZ S t ≤ i
    · rw [if_pos (nI_le d (by omega))]; rfl
    · rw [if_neg (nI_ge (by omega) (by omega)), if_pos (nI_le (by omega) (by omega))]; rfl
  | r + 1, f + 1, i, c, P, M, h, k, hn, hi, hf => by
    have h8 := o.1.1.1
    have h40 := (o.2.2.2 t ht).2
    have hs : M.1 (sz + 41 + 2 * t) 2 = nI (sZ S t) := (h.2.2.2.1 t ht).2.1
    have hp : M.1 (z_r Γ sz 0) 2 = nI (pN (sP S)) := by rw [(gx g).1, ← hn]; exact h.1.1
    have hu : M.2 (z_r Γ (sz + 41 + 2 * t) 0) i = sU S t i := by
      rw [(gx g).2.2.2.2.2.2.2.2.2 t ht]
      exact (h.2.2.2.1 t ht).2.2 i (by show i < sZ S t; omega)
    rw [X10_lays_P29, hs, hp, if_neg (nI_ge (by omega) (by omega)), if_neg (nI_ge (by omega) (by omega)), if_pos (z_ixn (by omega) (by decide)), nI_cl (by omega), hu, nI_s, o_lay]
    simp only [lg_cmp_lt, lg_cmp_gt]
    by_cases d : sU S t i < 0 ∨ 1023 < sU S t i
    · rw [if_pos d]
      obtain ⟨M', e', c', f'⟩ := c_layL g o ht r f (i + 1) c h k hn (by omega) (by omega)
      refine ⟨M', ?_, c', f'⟩
      by_cases e : sU S t i < 0
      · rw [if_pos e]; exact e'
      · rw [if_neg e, if_pos (d.resolve_left e)]; exact e'
    · rw [if_neg d, if_neg (fun q => d (Or.inl q)), if_neg (fun q => d (Or.inr q))]
      obtain ⟨q, hq, eq⟩ := i_64 d
      rw [eq]
      have hi' : i < pN P := by omega
      obtain ⟨M1, e1, c1, f1⟩ := c_lj (P := P) (a := sz + 8) h.1 k.1.1 hi' (nI q)
      have kk : o_kh (o_lj P i (nI q)) := ⟨o_lj_ok k.1 hi' hq, k.2⟩
      have oP : SO (uP S P) := ⟨k, o.2⟩
      have C1 : SC sz M1 (uP S (o_lj P i (nI q))) := SC.here (S := uP S P) h oP c1 f1.T8
      obtain ⟨M', e', c', f'⟩ := c_layL g o ht r f (i + 1) (c + 1) C1 kk hn (by omega) (by omega)
      refine ⟨M', ?_, c', (f_T8C f1.T8).tr f'⟩
      rw [(gx g).1, c_vis (g_P8 g) (by omega), Option.bind_some, e1, z_lps]
      exact e'
theorem r_layL {Γ : Zg} {sz : Nat} (g : g_Ok Γ sz) {S : Sg} (o : SO S) {t : Nat} (ht : t < 4) : ∀ (r f i : Nat) (c : Int32) {P : Pk} {M : Zm}, SM sz M (uP S P) → o_kh P → pN P = pN (sP S) → i + r = min (sZ S t) (pN (sP S)) → r < f → ∃ M', X11_lays_P22 Γ f M (sz + 51) (nI t) c (nI i) = some ((o_lay (sU S t) r i c P).1, M') ∧ SM sz M' (uP S (o_lay (sU S t) r i c P).2) ∧ fR sz M M'
  | 0, f + 1, i, c, P, M, h, k, hn, hi, _ => by
    have h8 := o.1.1.1
    have h40 := (o.2.2.2 t ht).2
    have hs : M.1 (z_r Γ (sz + 51) 9) t = nI (sZ S t) := by rw [(gm g).2.2.2.2.2.2.2.1]; exact (h.2.2.2.1 t ht).2.1
    have hp : M.1 (z_r Γ (sz + 51) 0) 0 = nI (pN (sP S)) := by rw [(gm g).1, ← hn]; exact h.1.1
    refine ⟨M, ?_, h, fR.rf⟩
    rw [X11_lays_P22, if_pos (z_ixn ht (by decide)), nI_cl (n := t) (by omega), hs, hp]
    by_cases d : sZ S t ≤ i
    · rw [if_pos (nI_le d (by omega))]; rfl
    · rw [if_neg (nI_ge (by omega) (by omega)), if_pos (nI_le (by omega) (by omega))]; rfl
  | r + 1, f + 1, i, c, P, M, h, k, hn, hi, hf => by
    have h8 := o.1.1.1
    have h40 := (o.2.2.2 t ht).2
    have hs : M.1 (z_r Γ (sz + 51) 9) t = nI (sZ S t) := by rw [(gm g).2.2.2.2.2.2.2.1]; exact (h.2.2.2.1 t ht).2.1
    have hp : M.1 (z_r Γ (sz + 51) 0) 0 = nI (pN (sP S)) := by rw [(gm g).1, ← hn]; exact h.1.1
    have hu : M.2 (z_r Γ (sz + 51) 10) (40 * t + i) = sU S t i := by
      rw [(gm g).2.2.2.2.2.2.2.2]
      exact (h.2.2.2.1 t ht).2.2 i (by show i < sZ S t; omega)
    rw [X11_lays_P22, if_pos (z_ixn ht (by decide)), nI_cl (n := t) (by omega), hs, hp, if_neg (nI_ge (by omega) (by omega)), if_neg (nI_ge (by omega) (by omega)), o_40, if_pos (z_ixn (by omega) (by decide)), nI_cl (by omega), hu, nI_s, o_lay]
    by_cases d : sU S t i < 0 ∨ 1023 < sU S t i
    · rw [if_pos d, if_pos ((x_in64 _).mpr d)]
      exact r_layL g o ht r f (i + 1) c h k hn (by omega) (by omega)
    · rw [if_neg d, if_neg (fun q => d ((x_in64 _).mp q))]
      obtain ⟨q, hq, eq⟩ := i_64 d
      rw [eq]
      have hi' : i < pN P := by omega
      obtain ⟨M1, e1, c1, f1⟩ := r_lj (P := P) (gm g).1 h.1 k.1.1 hi' (nI q)
      have kk : o_kh (o_lj P i (nI q)) := ⟨o_lj_ok k.1 hi' hq, k.2⟩
      have C1 : SM sz M1 (uP S (o_lj P i (nI q))) := SM.here (S := uP S P) h c1 f1.T52
      obtain ⟨M', e', c', f'⟩ := r_layL g o ht r f (i + 1) (c + 1) C1 kk hn (by omega) (by omega)
      refine ⟨M', ?_, c', (f_T52R f1.T52).tr f'⟩
      rw [e1, z_bps]
      exact e'
theorem e_lays {Γ : Zg} {sz : Nat} (g : g_Ok Γ sz) {S : Sg} (o : SO S) (a : Int32) : eS sz (fun M => X10_lays Γ M sz a) (fun M => X11_lays Γ M (sz + 51) a) S := by
  unfold X10_lays X11_lays
  refine eS.want g o a (fun M hM n => by rw [r_want g o hM, Option.bind_some]) (fun t ht ea w => ?_)
  subst ea
  have h8 := o.1.1.1
  have k := o_lay_ok (sU S t) (min (sZ S t) (pN (sP S))) 0 0 (P := sP S) (by omega) o.1
  refine ⟨_, uP S _, fun M h => ?_, fun M h => r_layL g o ht (min (sZ S t) (pN (sP S))) 1000 0 0 (P := sP S) h o.1 rfl (by omega) (by omega), ⟨k, o.2⟩⟩
  show ∃ M', (if z_ix (nI t) 4 = true then _ else none) = _ ∧ _
  rw [if_pos (z_ixn ht (by decide)), nI_cl (by omega), c_sha g ht]
  exact c_layL g o ht (min (sZ S t) (pN (sP S))) 1000 0 0 (P := sP S) h o.1 rfl (by omega) (by omega)
