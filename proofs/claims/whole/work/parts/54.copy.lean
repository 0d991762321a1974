/-! copy -/
theorem o_subN {z i : Nat} (h : i ≤ z) : nI z - nI i = nI (z - i) := by
  have e : nI z = nI (z - i) + nI i := by rw [nI_add, show z - i + i = z by omega]
  rw [e]
  exact Int32.add_sub_cancel _ _
theorem i_spR {z i n : Nat} (hz : z ≤ 40) (hi : i < 2 ^ 31) (hn : n < 2 ^ 31) : nI z - nI i < nI n ↔ ¬ i + n ≤ z := by
  rw [Int32.lt_iff_toInt_lt, nI_toInt hn, Int32.toInt_sub, nI_toInt (by omega), nI_toInt hi, Int.bmod_def]
  split <;> omega
theorem x_span {M : Zm} {a z i n : Nat} (hs : M.1 a 2 = nI z) (hz : z ≤ 40) (hi : i < 2 ^ 31) (hn : n < 2 ^ 31) : X5_hasSpan M a (nI i) (nI n) = 0 ↔ ¬ i + n ≤ z := by
  unfold X5_hasSpan
  rw [hs, if_neg (nI_pos hi), if_neg (nI_pos hn)]
  by_cases c : nI z < nI i
  · rw [if_pos c]
    rw [nI_ltI (by omega) hi] at c
    exact ⟨fun _ => by omega, fun _ => rfl⟩
  · rw [if_neg c]
    by_cases d : nI z - nI i < nI n
    · rw [if_pos d]
      exact ⟨fun _ => (i_spR hz hi hn).mp d, fun _ => rfl⟩
    · rw [if_neg d]
      exact ⟨fun q => absurd q (by decide), fun q => absurd ((i_spR hz hi hn).mpr q) d⟩
theorem r_cpA {Γ : Zg} {sz : Nat} (g : g_Ok Γ sz) {M0 : Zm} {A B n : Nat} (hA : A + n ≤ 160) (hB : B + n ≤ 160) (hBA : B ≤ A) : ∀ (r f k : Nat) (M : Zm), k + r = n → r < f → (∀ x, M.2 (sz + 60) x = if B ≤ x ∧ x < B + k then M0.2 (sz + 60) (A + (x - B)) else M0.2 (sz + 60) x) → ∃ M', X11_copy_P136 Γ f M (sz + 51) (nI n) (nI A) (nI B) (nI k) = some (nI n, M') ∧ (∀ x, M'.2 (sz + 60) x = if B ≤ x ∧ x < B + n then M0.2 (sz + 60) (A + (x - B)) else M0.2 (sz + 60) x) ∧ M'.1 = M.1 ∧ ∀ b, b ≠ sz + 60 → M'.2 b = M.2 b
  | 0, f + 1, k, M, hk, _, h => by
    have : k = n := by omega
    subst this
    rw [X11_copy_P136, if_pos (nI_le (Nat.le_refl _) (by omega))]
    exact ⟨M, rfl, h, rfl, fun _ _ => rfl⟩
  | r + 1, f + 1, k, M, hk, hf, h => by
    have ev : M.2 (sz + 60) (A + k) = M0.2 (sz + 60) (A + k) := by rw [h, if_neg (by omega)]
    rw [X11_copy_P136, if_neg (nI_ge (by omega) (by omega)), if_pos (nI_le hBA (by omega)), nI_add, nI_add, if_pos (z_ixn (by omega) (by decide)), if_pos (z_ixn (by omega) (by decide)), nI_cl (by omega), nI_cl (by omega), (gm g).2.2.2.2.2.2.2.2, ev, z_lts, nI_s]
    obtain ⟨M', e', v', i', l'⟩ := r_cpA g (M0 := M0) hA hB hBA r f (k + 1) (z_l M (sz + 60) (B + k) (M0.2 (sz + 60) (A + k))) (by omega) (by omega) (fun x => by
      rw [z_l_rd]
      by_cases c : x = B + k
      · rw [if_pos ⟨rfl, c⟩, if_pos (by omega), c, show A + (B + k - B) = A + k by omega]
      · rw [if_neg (fun q => c q.2), h x]
        by_cases d : B ≤ x ∧ x < B + k
        · rw [if_pos d, if_pos (by omega)]
        · rw [if_neg d, if_neg (by omega)])
    exact ⟨M', e', v', i'.trans (z_l_1 _ _ _ _), fun b hb => (l' b hb).trans (z_l_ne hb)⟩
theorem r_cpD {Γ : Zg} {sz : Nat} (g : g_Ok Γ sz) {M0 : Zm} {A B n : Nat} (hA : A + n ≤ 160) (hB : B + n ≤ 160) (hBA : ¬ B ≤ A) : ∀ (r f k : Nat) (M : Zm), k + r = n → r < f → (∀ x, M.2 (sz + 60) x = if B + n ≤ x + k ∧ x < B + n then M0.2 (sz + 60) (A + (x - B)) else M0.2 (sz + 60) x) → ∃ M', X11_copy_P136 Γ f M (sz + 51) (nI n) (nI A) (nI B) (nI k) = some (nI n, M') ∧ (∀ x, M'.2 (sz + 60) x = if B ≤ x ∧ x < B + n then M0.2 (sz + 60) (A + (x - B)) else M0.2 (sz + 60) x) ∧ M'.1 = M.1 ∧ ∀ b, b ≠ sz + 60 → M'.2 b = M.2 b
  | 0, f + 1, k, M, hk, _, h => by
    have : k = n := by omega
    subst this
    rw [X11_copy_P136, if_pos (nI_le (Nat.le_refl _) (by omega))]
    refine ⟨M, rfl, fun x => ?_, rfl, fun _ _ => rfl⟩
    rw [h x]
    by_cases d : B ≤ x ∧ x < B + k
    · rw [if_pos d, if_pos (by omega)]
    · rw [if_neg d, if_neg (by omega)]
  | r + 1, f + 1, k, M, hk, hf, h => by
    have en : nI n - 1 - nI k = nI r := by
      rw [show n = (r + k) + 1 by omega, nI_pred, o_subN (by omega), show r + k - k = r by omega]
    have ev : M.2 (sz + 60) (A + r) = M0.2 (sz + 60) (A + r) := by rw [h, if_neg (by omega)]
    rw [X11_copy_P136, if_neg (nI_ge (by omega) (by omega)), if_neg (nI_ge (by omega) (by omega)), en, nI_add, nI_add, if_pos (z_ixn (by omega) (by decide)), if_pos (z_ixn (by omega) (by decide)), nI_cl (by omega), nI_cl (by omega), (gm g).2.2.2.2.2.2.2.2, ev, z_lts, nI_s]
    obtain ⟨M', e', v', i', l'⟩ := r_cpD g (M0 := M0) hA hB hBA r f (k + 1) (z_l M (sz + 60) (B + r) (M0.2 (sz + 60) (A + r))) (by omega) (by omega) (fun x => by
      rw [z_l_rd]
      by_cases c : x = B + r
      · rw [if_pos ⟨rfl, c⟩, if_pos (by omega), c, show A + (B + r - B) = A + r by omega]
      · rw [if_neg (fun q => c q.2), h x]
        by_cases d : B + n ≤ x + k ∧ x < B + n
        · rw [if_pos d, if_pos (by omega)]
        · rw [if_neg d, if_neg (by omega)])
    exact ⟨M', e', v', i'.trans (z_l_1 _ _ _ _), fun b hb => (l' b hb).trans (z_l_ne hb)⟩
theorem r_cpy {Γ : Zg} {sz : Nat} (g : g_Ok Γ sz) {M : Zm} {A B n : Nat} (hA : A + n ≤ 160) (hB : B + n ≤ 160) : ∃ M', X11_copy_P136 Γ 1000 M (sz + 51) (nI n) (nI A) (nI B) 0 = some (nI n, M') ∧ (∀ x, M'.2 (sz + 60) x = if B ≤ x ∧ x < B + n then M.2 (sz + 60) (A + (x - B)) else M.2 (sz + 60) x) ∧ M'.1 = M.1 ∧ ∀ b, b ≠ sz + 60 → M'.2 b = M.2 b := by
  by_cases hBA : B ≤ A
  · exact r_cpA g (M0 := M) hA hB hBA n 1000 0 M (by omega) (by omega) (fun x => by rw [if_neg (by omega)])
  · exact r_cpD g (M0 := M) hA hB hBA n 1000 0 M (by omega) (by omega) (fun x => by rw [if_neg (by omega)])
def o_cp (S : Sg) (t i u j n : Nat) : Sg := o_sh S u (sW S u) (sZ S u) (va_cpy (sU S t) (sU S u) i j n)
theorem c_cpS {sz : Nat} {S : Sg} (o : SO S) {M : Zm} (h : SC sz M S) {t i u j n : Nat} (ht : t < 4) (hu : u < 4) (hi : i + n ≤ sZ S t) (hj : j + n ≤ sZ S u) : SC sz (z_cp M (sz + 42 + 2 * t) (sz + 42 + 2 * u) i j n) (o_cp S t i u j n) ∧ fC sz M (z_cp M (sz + 42 + 2 * t) (sz + 42 + 2 * u) i j n) := by
  have hs := h.2.2.2.1 u hu
  have ht' := h.2.2.2.1 t ht
  have fl : ∀ b, b ≠ sz + 42 + 2 * u → (z_cp M (sz + 42 + 2 * t) (sz + 42 + 2 * u) i j n).2 b = M.2 b := fun b hb => va_up_ne _ _ hb
  refine ⟨SC.sh h o hu hs.1 hs.2.1 (fun k hk => ?_) (fun b _ => rfl) fl, fun b hb => ⟨rfl, fl b (by omega)⟩⟩
  rw [z_cp_eq]
  unfold va_cpy
  by_cases c : j ≤ k ∧ k < j + n
  · rw [if_pos c, if_pos c, ht'.2.2 _ (by omega)]
  · rw [if_neg c, if_neg c, hs.2.2 k hk]
theorem r_cpS {sz : Nat} {S : Sg} (o : SO S) {M M' : Zm} (h : SM sz M S) {t i u j n : Nat} (ht : t < 4) (hu : u < 4) (hi : i + n ≤ sZ S t) (hj : j + n ≤ sZ S u) (v : ∀ x, M'.2 (sz + 60) x = if 40 * u + j ≤ x ∧ x < 40 * u + j + n then M.2 (sz + 60) (40 * t + i + (x - (40 * u + j))) else M.2 (sz + 60) x) (e1 : M'.1 = M.1) (e2 : ∀ b, b ≠ sz + 60 → M'.2 b = M.2 b) : SM sz M' (o_cp S t i u j n) ∧ fR sz M M' := by
  have h40 := (o.2.2.2 u hu).2
  have hs := h.2.2.2.1 u hu
  have ht' := h.2.2.2.1 t ht
  refine ⟨SM.sh h hu (fun s hs => (o.2.2.2 s hs).2) h40 (fun s hs2 => ?_) (fun s hs2 => ?_) (fun k hk => ?_) (fun s hs2 hst k hk => ?_) (fun b _ _ => by rw [e1]), fun b hb => ⟨by rw [e1], e2 b (by omega)⟩⟩
  · rw [e1]
    by_cases c : s = u
    · rw [if_pos c, c]; exact hs.1
    · rw [if_neg c]
  · rw [e1]
    by_cases c : s = u
    · rw [if_pos c, c]; exact hs.2.1
    · rw [if_neg c]
  · rw [v]
    unfold va_cpy
    by_cases c : j ≤ k ∧ k < j + n
    · rw [if_pos (by omega), if_pos c, show 40 * t + i + (40 * u + k - (40 * u + j)) = 40 * t + (i + (k - j)) by omega, ht'.2.2 _ (by omega)]
    · rw [if_neg (by omega), if_neg c, hs.2.2 k hk]
  · rw [v, if_neg (by omega)]
theorem e_copy {Γ : Zg} {sz : Nat} (g : g_Ok Γ sz) {S : Sg} (o : SO S) (a b c d e : Int32) : eS sz (fun M => X10_copy Γ M sz a b c d e) (fun M => X11_copy Γ M (sz + 51) a b c d e) S := by
  unfold X10_copy X11_copy
  refine eS.ite (a < 0 ∨ 4 ≤ a) (fun M _ => x_sheet a) (fun M _ => x_sheetR a) (fun _ => eS.fd1 g o 0 (by decide) (by decide)) (fun na => ?_)
  refine eS.ite (c < 0 ∨ 4 ≤ c) (fun M _ => x_sheet c) (fun M _ => x_sheetR c) (fun _ => eS.fd1 g o 0 (by decide) (by decide)) (fun nc => ?_)
  obtain ⟨t, ht, rfl⟩ := i_sh na
  obtain ⟨u, hu, rfl⟩ := i_sh nc
  have zt := (o.2.2.2 t ht).2
  have zu := (o.2.2.2 u hu).2
  have bt : ∀ M, SM sz M S → M.1 (z_r Γ (sz + 51) 8) t = (if sW S t = 0 then -1 else sW S t) := fun M h => by rw [(gm g).2.2.2.2.2.2.1]; exact (h.2.2.2.1 t ht).1
  have bu : ∀ M, SM sz M S → M.1 (z_r Γ (sz + 51) 8) u = (if sW S u = 0 then -1 else sW S u) := fun M h => by rw [(gm g).2.2.2.2.2.2.1]; exact (h.2.2.2.1 u hu).1
  have st : ∀ M, SM sz M S → M.1 (z_r Γ (sz + 51) 9) t = nI (sZ S t) := fun M h => by rw [(gm g).2.2.2.2.2.2.2.1]; exact (h.2.2.2.1 t ht).2.1
  have su : ∀ M, SM sz M S → M.1 (z_r Γ (sz + 51) 9) u = nI (sZ S u) := fun M h => by rw [(gm g).2.2.2.2.2.2.2.1]; exact (h.2.2.2.1 u hu).2.1
  have ms : ∀ (M : Zm) (q : Nat), q < 4 → SC sz M S → (X5_isMissing M (sz + 41 + 2 * q) = 0 ↔ ¬ sW S q = 0) := fun M q hq h => by
    unfold X5_isMissing
    rw [(h.2.2.2.1 q hq).1]
    by_cases w : sW S q = 0
    · rw [if_pos w]; exact ⟨fun x => absurd x (by decide), fun x => absurd w x⟩
    · rw [if_neg w]; exact ⟨fun _ => w, fun _ => rfl⟩
  by_cases wt : sW S t = 0
  · refine eS.fd g o 5 (x := -1000000006) (by decide) (by decide) (fun M h => ?_) (fun M h => ?_)
    · rw [if_pos (z_ixn ht (by decide)), if_pos (z_ixn hu (by decide)), nI_cl (n := t) (by omega), c_sha g ht, if_neg (fun q => (ms M t ht h).mp q wt)]
    · rw [if_pos (z_ixn ht (by decide)), nI_cl (n := t) (by omega), bt M h, if_pos (Int32.not_le.mp (fun q => (o_w0 o ht).mp q wt))]
  by_cases wu : sW S u = 0
  · refine eS.fd g o 5 (x := -1000000006) (by decide) (by decide) (fun M h => ?_) (fun M h => ?_)
    · rw [if_pos (z_ixn ht (by decide)), if_pos (z_ixn hu (by decide)), nI_cl (n := t) (by omega), c_sha g ht, if_pos ((ms M t ht h).mpr wt), nI_cl (n := u) (by omega), c_sha g hu, if_neg (fun q => (ms M u hu h).mp q wu)]
    · rw [if_pos (z_ixn ht (by decide)), nI_cl (n := t) (by omega), bt M h, if_neg (Int32.not_lt.mpr ((o_w0 o ht).mpr wt)), if_pos (z_ixn hu (by decide)), nI_cl (n := u) (by omega), bu M h, if_neg (fun q => (o_w0 o hu).mp q wu)]
  by_cases wb : sW S t = sW S u
  case neg =>
    refine eS.fd g o 2 (x := -1000000003) (by decide) (by decide) (fun M h => ?_) (fun M h => ?_)
    · rw [if_pos (z_ixn ht (by decide)), if_pos (z_ixn hu (by decide)), nI_cl (n := t) (by omega), c_sha g ht, if_pos ((ms M t ht h).mpr wt), nI_cl (n := u) (by omega), c_sha g hu, if_pos ((ms M u hu h).mpr wu), (h.2.2.2.1 t ht).1, (h.2.2.2.1 u hu).1, if_neg wb]
    · rw [if_pos (z_ixn ht (by decide)), nI_cl (n := t) (by omega), bt M h, if_neg (Int32.not_lt.mpr ((o_w0 o ht).mpr wt)), if_pos (z_ixn hu (by decide)), nI_cl (n := u) (by omega), bu M h, if_pos ((o_w0 o hu).mpr wu), if_pos (z_ixn ht (by decide)), if_pos (z_ixn hu (by decide)), if_neg (by rw [if_neg wt, if_neg wu]; exact wb)]
  case pos =>
    refine eS.ch (fun M h => by rw [if_pos (z_ixn ht (by decide)), if_pos (z_ixn hu (by decide)), nI_cl (n := t) (by omega), c_sha g ht, if_pos ((ms M t ht h).mpr wt), nI_cl (n := u) (by omega), c_sha g hu, if_pos ((ms M u hu h).mpr wu), (h.2.2.2.1 t ht).1, (h.2.2.2.1 u hu).1, if_pos wb]) (fun M h => by rw [if_pos (z_ixn ht (by decide)), nI_cl (n := t) (by omega), bt M h, if_neg (Int32.not_lt.mpr ((o_w0 o ht).mpr wt)), if_pos (z_ixn hu (by decide)), nI_cl (n := u) (by omega), bu M h, if_pos ((o_w0 o hu).mpr wu), if_pos (z_ixn ht (by decide)), if_pos (z_ixn hu (by decide)), if_pos (by rw [if_neg wt, if_neg wu]; exact wb), st M h, su M h]) ?_
    by_cases nb : b < 0
    · refine eS.fd g o 0 (x := -1000000001) (by decide) (by decide) (fun M h => ?_) (fun M h => by rw [if_pos nb])
      rw [if_pos (show X5_hasSpan M (sz + 41 + 2 * t) b e = 0 from by unfold X5_hasSpan; rw [if_pos nb])]
    by_cases ne : e < 0
    · refine eS.fd g o 0 (x := -1000000001) (by decide) (by decide) (fun M h => ?_) (fun M h => ?_)
      · rw [if_pos (show X5_hasSpan M (sz + 41 + 2 * t) b e = 0 from by unfold X5_hasSpan; rw [if_neg nb, if_pos ne])]
      · rw [if_neg nb]
        by_cases nd : d < 0
        · rw [if_pos nd]
        · rw [if_neg nd, if_pos ne]
    obtain ⟨i, hi, rfl⟩ := nI_of nb
    obtain ⟨n, hn, rfl⟩ := nI_of ne
    by_cases nd : d < 0
    · refine eS.fd g o 0 (x := -1000000001) (by decide) (by decide) (fun M h => ?_) (fun M h => by rw [if_neg nb, if_pos nd])
      rw [if_pos (show X5_hasSpan M (sz + 41 + 2 * u) d (nI n) = 0 from by unfold X5_hasSpan; rw [if_pos nd])]
      split <;> rfl
    obtain ⟨j, hj, rfl⟩ := nI_of nd
    by_cases sp : i + n ≤ sZ S t
    case neg =>
      refine eS.fd g o 0 (x := -1000000001) (by decide) (by decide) (fun M h => ?_) (fun M h => ?_)
      · rw [if_pos ((x_span (h.2.2.2.1 t ht).2.1 zt hi hn).mpr sp)]
      · rw [if_neg nb, if_neg nd, if_neg ne, if_pos (z_ixn ht (by decide)), if_pos ((i_spR zt hi hn).mpr sp)]
    by_cases sq : j + n ≤ sZ S u
    case neg =>
      refine eS.fd g o 0 (x := -1000000001) (by decide) (by decide) (fun M h => ?_) (fun M h => ?_)
      · rw [if_neg (fun q => (x_span (h.2.2.2.1 t ht).2.1 zt hi hn).mp q sp), if_pos ((x_span (h.2.2.2.1 u hu).2.1 zu hj hn).mpr sq)]
      · rw [if_neg nb, if_neg nd, if_neg ne, if_pos (z_ixn ht (by decide)), if_neg (fun q => (i_spR zt hi hn).mp q sp), if_pos (z_ixn hu (by decide)), if_neg (fun q => Int32.not_le.mpr ((i_spR zu hj hn).mpr sq) q)]
    refine ⟨nI n, o_cp S t i u j n, fun M h => ?_, fun M h => ?_, o_sh_ok o (o.2.2.2 u hu).1 zu⟩
    · obtain ⟨c1, f1⟩ := c_cpS o h ht hu sp sq
      refine ⟨_, ?_, c1, f1⟩
      show (if X5_hasSpan M (sz + 41 + 2 * t) (nI i) (nI n) = 0 then _ else _) = _
      rw [if_neg (fun q => (x_span (h.2.2.2.1 t ht).2.1 zt hi hn).mp q sp), if_neg (fun q => (x_span (h.2.2.2.1 u hu).2.1 zu hj hn).mp q sq), if_pos nb, if_pos nd, if_pos ne, nI_cl (n := i) (by omega), nI_cl (n := n) (by omega), if_pos (by omega), nI_cl (n := j) (by omega), if_pos (by omega), (gx g).2.2.2.2.2.2.2.2.2 t ht, (gx g).2.2.2.2.2.2.2.2.2 u hu, z_lts]
    · obtain ⟨M', e', v', i', l'⟩ := r_cpy g (M := M) (A := 40 * t + i) (B := 40 * u + j) (n := n) (by omega) (by omega)
      obtain ⟨c1, f1⟩ := r_cpS o h ht hu sp sq v' i' l'
      refine ⟨M', ?_, c1, f1⟩
      show (if nI i < 0 then _ else _) = _
      rw [if_neg nb, if_neg nd, if_neg ne, if_pos (z_ixn ht (by decide)), if_neg (fun q => (i_spR zt hi hn).mp q sp), if_pos (z_ixn hu (by decide)), if_pos (Int32.not_lt.mp (fun q => (i_spR zu hj hn).mp q sq)), o_40, o_40]
      exact e'
