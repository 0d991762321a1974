theorem eS.fd64 {Γ : Zg} {sz : Nat} (g : g_Ok Γ sz) {S : Sg} (o : SO S) (k : Nat) (hk : k < 7) {x : Int32} (hx : -1000000001 - x = nI k) : eS sz (fun M => z_bp (X10_finding Γ M sz x) (fun r M => some (r.toInt64, M))) (fun M => z_bp (X11_finds Γ M (sz + 51) x) (fun r M => some (r.toInt64, M))) S := by
  refine ⟨x.toInt64, _, fun M h => ?_, fun M h => ?_, SO.q o (o_fq (sQ S) k)⟩
  · obtain ⟨M2, e2, c2, f2⟩ := c_fd g o hk hx M h
    refine ⟨M2, ?_, c2, f2⟩
    show z_bp (X10_finding Γ M sz x) _ = _
    rw [show X10_finding Γ M sz x = _ from e2, z_bps]
  · obtain ⟨M2, e2, c2, f2⟩ := r_fd g hk hx M h
    refine ⟨M2, ?_, c2, f2⟩
    show z_bp (X11_finds Γ M (sz + 51) x) _ = _
    rw [show X11_finds Γ M (sz + 51) x = _ from e2, z_bps]
def o_want (S : Sg) (a : Int32) : Int32 := if a < 0 ∨ 4 ≤ a then -1000000001 else if sW S a.toNatClampNeg = 0 then -1000000006 else 0
theorem o_want1 {S : Sg} {t : Nat} (ht : t < 4) (w : sW S t = 0) : o_want S (nI t) = -1000000006 := by
  have d : ∀ t, t < 4 → ¬ (nI t < 0 ∨ 4 ≤ nI t) := by decide
  unfold o_want
  rw [if_neg (d t ht), nI_cl (by omega), if_pos w]
theorem o_want2 {S : Sg} {t : Nat} (ht : t < 4) (w : ¬ sW S t = 0) : o_want S (nI t) = 0 := by
  have d : ∀ t, t < 4 → ¬ (nI t < 0 ∨ 4 ≤ nI t) := by decide
  unfold o_want
  rw [if_neg (d t ht), nI_cl (by omega), if_neg w]
theorem o_wantC (S : Sg) (a : Int32) : (∃ t, t < 4 ∧ a = nI t ∧ ¬ sW S t = 0) ∨ (¬ o_want S a = 0 ∧ ∃ k, k < 7 ∧ -1000000001 - o_want S a = nI k) := by
  by_cases d : a < 0 ∨ 4 ≤ a
  · refine Or.inr ?_
    rw [show o_want S a = -1000000001 from if_pos d]
    exact ⟨by decide, 0, by decide, by decide⟩
  · obtain ⟨t, ht, rfl⟩ := i_sh d
    by_cases w : sW S t = 0
    · refine Or.inr ?_
      rw [o_want1 ht w]
      exact ⟨by decide, 5, by decide, by decide⟩
    · exact Or.inl ⟨t, ht, rfl, w⟩
theorem c_sha {Γ : Zg} {sz : Nat} (g : g_Ok Γ sz) {t : Nat} (ht : t < 4) : z_r Γ (z_r Γ sz 5) t = sz + 41 + 2 * t := by
  rw [(gx g).2.2.2.2.1]; exact (gx g).2.2.2.2.2.2.2.2.1 t ht
theorem c_want {Γ : Zg} {sz : Nat} (g : g_Ok Γ sz) {S : Sg} {M : Zm} (h : SC sz M S) (a : Int32) : X10_faultOfSheet Γ M sz a = some (o_want S a) := by
  unfold X10_faultOfSheet
  by_cases d : a < 0 ∨ 4 ≤ a
  · rw [if_pos ((x_sheet a).mpr d), show o_want S a = -1000000001 from if_pos d]
  · obtain ⟨t, ht, rfl⟩ := i_sh d
    rw [if_neg (fun q => d ((x_sheet _).mp q)), if_pos (z_ixn ht (by decide)), nI_cl (by omega), c_sha g ht]
    unfold X5_isMissing
    rw [(h.2.2.2.1 t ht).1]
    by_cases w : sW S t = 0
    · rw [if_pos w, if_neg (by decide), o_want1 ht w]
    · rw [if_neg w, if_pos rfl, o_want2 ht w]
theorem o_w0 {S : Sg} (o : SO S) {t : Nat} (ht : t < 4) : (0 ≤ (if sW S t = 0 then (-1 : Int32) else sW S t) ↔ ¬ sW S t = 0) := by
  rcases (o.2.2.2 t ht).1 with e | e | e | e <;> rw [e] <;> decide
theorem r_want {Γ : Zg} {sz : Nat} (g : g_Ok Γ sz) {S : Sg} (o : SO S) {M : Zm} (h : SM sz M S) (a : Int32) : X11_wants Γ M (sz + 51) a = some (o_want S a) := by
  unfold X11_wants
  by_cases d : a < 0 ∨ 4 ≤ a
  · rw [if_pos ((x_sheetR a).mpr d), show o_want S a = -1000000001 from if_pos d]
  · obtain ⟨t, ht, rfl⟩ := i_sh d
    rw [if_neg (fun q => d ((x_sheetR _).mp q)), if_pos (z_ixn ht (by decide)), nI_cl (by omega), (gm g).2.2.2.2.2.2.1, (h.2.2.2.1 t ht).1]
    by_cases w : sW S t = 0
    · rw [if_neg (fun q => (o_w0 o ht).mp q w), o_want1 ht w]
    · rw [if_pos ((o_w0 o ht).mpr w), o_want2 ht w]
theorem eS.want {Γ : Zg} {sz : Nat} (g : g_Ok Γ sz) {S : Sg} (o : SO S) {A B C : Zm → Option (Int32 × Zm)} (a : Int32) (hC : ∀ M, SM sz M S → ¬ o_want S a = 0 → C M = z_bp (X11_finds Γ M (sz + 51) (o_want S a)) (fun r M => some (r, M))) (h : ∀ t, t < 4 → a = nI t → ¬ sW S t = 0 → eS sz A B S) : eS sz (fun M => (X10_faultOfSheet Γ M sz a).bind (fun r => if r = 0 then A M else z_bp (X10_finding Γ M sz r) (fun r M => some (r, M)))) (fun M => (X11_wants Γ M (sz + 51) a).bind (fun r => if r = 0 then B M else C M)) S := by
  rcases o_wantC S a with ⟨t, ht, ea, w⟩ | ⟨n, k, hk, ek⟩
  · have e0 : o_want S a = 0 := by rw [ea]; exact o_want2 ht w
    exact eS.ch (fun M hM => by rw [c_want g hM, Option.bind_some, if_pos e0]) (fun M hM => by rw [r_want g o hM, Option.bind_some, if_pos e0]) (h t ht ea w)
  · exact eS.ch (fun M hM => by rw [c_want g hM, Option.bind_some, if_neg n]) (fun M hM => by rw [r_want g o hM, Option.bind_some, if_neg n, hC M hM n]) (eS.fd1 g o k hk ek)
theorem i_pl {z : Nat} (hz : z ≤ 40) (a : Int32) : nI z - 1 < a ↔ nI z ≤ a := by
  cases z with
  | zero =>
    rw [show nI 0 - 1 = (-1 : Int32) from by decide, show nI 0 = (0 : Int32) from rfl, Int32.lt_iff_toInt_lt, Int32.le_iff_toInt_le]
    have h1 : (-1 : Int32).toInt = -1 := rfl
    have h2 : (0 : Int32).toInt = 0 := rfl
    omega
  | succ z =>
    rw [nI_pred, Int32.lt_iff_toInt_lt, Int32.le_iff_toInt_le, nI_toInt (by omega), nI_toInt (by omega)]
    omega
theorem o_40 (t j : Nat) : (40 : Int32) * nI t + nI j = nI (40 * t + j) := by
  rw [show (40 : Int32) = nI 40 from rfl, show nI 40 * nI t = nI (40 * t) from (Int32.ofNat_mul 40 t).symm, nI_add]
theorem e_write {Γ : Zg} {sz : Nat} (g : g_Ok Γ sz) {S : Sg} (o : SO S) (a b : Int32) (v : Int64) : eS sz (fun M => X10_write Γ M sz a b v) (fun M => X11_write Γ M (sz + 51) a b v) S := by
  unfold X10_write X11_write
  by_cases d : a < 0 ∨ 4 ≤ a
  · refine eS.ch (fun M h => ?_) (fun M h => by rw [if_pos ((x_sheetR a).mpr d)]) (eS.fd64 g o 0 (x := -1000000001) (by decide) (by decide))
    rw [c_want g h, Option.bind_some, show o_want S a = -1000000001 from if_pos d, if_neg (by decide)]
  · obtain ⟨t, ht, rfl⟩ := i_sh d
    have h40 := (o.2.2.2 t ht).2
    by_cases w : sW S t = 0
    · refine eS.ch (fun M h => ?_) (fun M h => ?_) (eS.fd64 g o 5 (x := -1000000006) (by decide) (by decide))
      · rw [c_want g h, Option.bind_some, o_want1 ht w, if_neg (by decide)]
      · rw [if_neg (fun q => d ((x_sheetR _).mp q)), if_pos (z_ixn ht (by decide)), nI_cl (by omega), (gm g).2.2.2.2.2.2.1, (h.2.2.2.1 t ht).1, if_neg (fun q => (o_w0 o ht).mp q w)]
    · by_cases k : b < 0 ∨ nI (sZ S t) ≤ b
      · refine eS.ch (fun M h => ?_) (fun M h => ?_) (eS.fd64 g o 0 (x := -1000000001) (by decide) (by decide))
        · rw [c_want g h, Option.bind_some, o_want2 ht w, if_pos rfl]
          by_cases e : b < 0
          · rw [if_pos e]
          · rw [if_neg e, if_pos (z_ixn ht (by decide)), nI_cl (by omega), c_sha g ht, (h.2.2.2.1 t ht).2.1, if_neg (Int32.not_lt.mpr (k.resolve_left e))]
        · rw [if_neg (fun q => d ((x_sheetR _).mp q)), if_pos (z_ixn ht (by decide)), nI_cl (by omega), (gm g).2.2.2.2.2.2.1, (gm g).2.2.2.2.2.2.2.1, (h.2.2.2.1 t ht).1, (h.2.2.2.1 t ht).2.1, if_pos ((o_w0 o ht).mpr w), if_pos (z_ixn ht (by decide)), if_pos ((x_in2 0 (nI (sZ S t) - 1) b (by decide) rfl).mpr (k.imp id (i_pl h40 b).mpr))]
      · obtain ⟨j, hj0, rfl⟩ := nI_of (fun q => k (Or.inl q))
        have hj : j < sZ S t := by
          have q : ¬ nI (sZ S t) ≤ nI j := fun q => k (Or.inr q)
          rw [nI_leI (by omega) hj0] at q
          omega
        refine ⟨sU S t j, o_pt S t j v, fun M h => ?_, fun M h => ?_, o_pt_ok o ht⟩
        · obtain ⟨M', e', c', _, f'⟩ := c_put g o h ht hj v
          refine ⟨M', ?_, c', f'⟩
          show ((X10_faultOfSheet Γ M sz (nI t)).bind _) = _
          rw [c_want g h, Option.bind_some, o_want2 ht w, if_pos rfl, if_neg (fun q => k (Or.inl q)), if_pos (z_ixn ht (by decide)), nI_cl (by omega), c_sha g ht, (h.2.2.2.1 t ht).2.1, if_pos (nI_lt hj (by omega)), if_pos (z_ixn ht (by decide)), e', z_bps]
        · obtain ⟨c', f'⟩ := r_put o h ht hj v
          refine ⟨_, ?_, c', f'⟩
          show (if X11_isSheet (nI t) = 0 then _ else _) = _
          rw [if_neg (fun q => d ((x_sheetR _).mp q)), if_pos (z_ixn ht (by decide)), nI_cl (n := t) (by omega), (gm g).2.2.2.2.2.2.1, (gm g).2.2.2.2.2.2.2.1, (h.2.2.2.1 t ht).1, (h.2.2.2.1 t ht).2.1, if_pos ((o_w0 o ht).mpr w), if_pos (z_ixn ht (by decide)), if_neg (fun q => k (((x_in2 0 (nI (sZ S t) - 1) (nI j) (by decide) rfl).mp q).imp id (i_pl h40 _).mp)), o_40, if_pos (z_ixn (by omega) (by decide)), if_pos (z_ixn ht (by decide)), if_pos (z_ixn (by omega) (by decide)), nI_cl (by omega), (gm g).2.2.2.2.2.2.2.2, z_lts, x_narrow w, (h.2.2.2.1 t ht).2.2 j hj]
