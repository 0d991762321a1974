def o_T38 (sz : Nat) : Nat → Prop := fun b => b = sz + 38 ∨ b = sz + 39
theorem SC.tape {sz : Nat} {M M' : Zm} {S : Sg} (h : SC sz M S) (o : SO S) {n : Nat} {y : Nat → Int32} (h3 : M'.1 (sz + 38) 1 = nI n) (hy : ∀ k, k < n → M'.1 (sz + 39) k = y k) (f : o_F (o_T38 sz) M M') : SC sz M' (uT S n y) := by
  obtain ⟨h1, h2, h4, h5, h6⟩ := h
  have e : ∀ b, b ≠ sz + 38 → b ≠ sz + 39 → M'.1 b = M.1 b := fun b hb hc => f.1 b (fun q => q.elim hb hc)
  refine ⟨h1.keep o.1.1.1 (fun b _ _ => e b (by omega) (by omega)), ⟨by rw [e _ (by omega) (by omega)]; exact h2.1, fun q => (h2.2 q).keep ?_ (fun b _ _ => e b (by omega) (by omega))⟩, ⟨h3, hy⟩, fun t ht => ?_, fun i hi => ?_⟩
  · rcases o.2.1 with q' | q'
    · exact absurd q' q
    · exact q'.2.1.1
  · rw [e _ (by omega) (by omega), f.2]
    exact h5 t ht
  · rw [e _ (by omega) (by omega)]
    exact h6 i hi
def o_T57 (sz : Nat) : Nat → Prop := fun b => b = sz + 51 ∨ b = sz + 57
theorem SM.tape {sz : Nat} {M M' : Zm} {S : Sg} (h : SM sz M S) {n : Nat} {y : Nat → Int32} (h3 : M'.1 (sz + 51) 7 = nI n) (hB : M'.1 (sz + 51) 4 = M.1 (sz + 51) 4) (hy : ∀ k, k < n → M'.1 (sz + 57) k = y k) (f : o_F (o_T57 sz) M M') : SM sz M' (uT S n y) := by
  obtain ⟨h1, h2, h4, h5, h6, h8⟩ := h
  have e : ∀ b, b ≠ sz + 51 → b ≠ sz + 57 → M'.1 b = M.1 b := fun b hb hc => f.1 b (fun q => q.elim hb hc)
  refine ⟨h1.keep (e _ (by omega) (by omega)), ⟨by rw [hB]; exact h2.1, fun q => (h2.2 q).keep (e _ (by omega) (by omega))⟩, ⟨h3, hy⟩, fun t ht => ?_, by rw [e _ (by omega) (by omega)]; exact h6, fun i hi => ?_⟩
  · rw [e _ (by omega) (by omega), e _ (by omega) (by omega), f.2]
    exact h5 t ht
  · rw [e _ (by omega) (by omega)]
    exact h8 i hi
theorem f_T38C {sz : Nat} {M M' : Zm} (f : o_F (o_T38 sz) M M') : fC sz M M' := f.fC (fun b hb => by rcases hb with q | q <;> omega)
theorem f_T57R {sz : Nat} {M M' : Zm} (f : o_F (o_T57 sz) M M') : fR sz M M' := f.fR (fun b hb => by rcases hb with q | q <;> omega)
theorem SO.t0 {S : Sg} (o : SO S) : SO (uT S 0 (sY S)) := ⟨o.1, o.2.1, ⟨by show (0 : Nat) ≤ 120; omega, fun k hk => absurd hk (Nat.not_lt_zero k)⟩, o.2.2.2⟩
theorem e_wipe {Γ : Zg} {sz : Nat} (g : g_Ok Γ sz) {S : Sg} (o : SO S) : eS sz (fun M => some (X10_wipe Γ M sz)) (fun M => some (X11_wipe M (sz + 51))) S := by
  refine ⟨nI (sN S), uT S 0 (sY S), fun M h => ?_, fun M h => ?_, o.t0⟩
  · have s : o_T38 sz (sz + 38) := Or.inl rfl
    have F : o_F (o_T38 sz) M (z_i M (sz + 38) 1 0) := o_F.i s
    have B : (z_i M (sz + 38) 1 0).1 (sz + 38) 1 = nI 0 := by rw [z_i_rd, if_pos ⟨rfl, rfl⟩]; rfl
    refine ⟨z_i M (sz + 38) 1 0, ?_, SC.tape h o B (fun k hk => absurd hk (Nat.not_lt_zero k)) F, f_T38C F⟩
    show some (X10_wipe Γ M sz) = _
    unfold X10_wipe
    rw [(gx g).2.2.2.1, h.2.2.1.1]
    rfl
  · have s : o_T57 sz (sz + 51) := Or.inl rfl
    have F : o_F (o_T57 sz) M (z_i M (sz + 51) 7 0) := o_F.i s
    have B : (z_i M (sz + 51) 7 0).1 (sz + 51) 7 = nI 0 := by rw [z_i_rd, if_pos ⟨rfl, rfl⟩]; rfl
    have E : (z_i M (sz + 51) 7 0).1 (sz + 51) 4 = M.1 (sz + 51) 4 := by rw [z_i_rd, if_neg (by omega)]
    refine ⟨z_i M (sz + 51) 7 0, ?_, SM.tape h B E (fun k hk => absurd hk (Nat.not_lt_zero k)) F, f_T57R F⟩
    show some (X11_wipe M (sz + 51)) = _
    unfold X11_wipe
    rw [h.2.2.1.1]
    rfl
def o_byte (v : Int32) (r : Nat) : Int32 := (v >>> ((8 * nI r) &&& 31)) &&& 255
def o_fd1 (v : Int32) (r : Nat) (S : Sg) : Sg := uT S (sN S + 1) (fun k => if k = sN S then o_byte v r else sY S k)
def o_fdS (v : Int32) : Nat → Sg → Sg
  | 0, S => S
  | r + 1, S => o_fdS v r (o_fd1 v r S)
theorem o_fd1_ok {v : Int32} {r : Nat} {S : Sg} (o : SO S) (h : sN S + 1 ≤ 120) : SO (o_fd1 v r S) := by
  refine ⟨o.1, o.2.1, ⟨h, fun k hk => ?_⟩, o.2.2.2⟩
  have hk' : k < sN S + 1 := hk
  show ∃ q, q < 256 ∧ (if k = sN S then o_byte v r else sY S k) = nI q
  by_cases c : k = sN S
  · rw [if_pos c]
    obtain ⟨q, hq, eq⟩ := o_andle (a := 255) (by decide) (v >>> ((8 * nI r) &&& 31))
    refine ⟨q, by omega, ?_⟩
    unfold o_byte
    rw [Int32.and_comm]
    exact eq
  · rw [if_neg c]
    exact o.2.2.1.2 k (by omega)
theorem o_fdS_ok {v : Int32} : ∀ (r : Nat) {S : Sg}, SO S → sN S + r ≤ 120 → SO (o_fdS v r S) ∧ sN (o_fdS v r S) = sN S + r
  | 0, S, o, _ => ⟨o, rfl⟩
  | r + 1, S, o, h => by
    have e : sN (o_fd1 v r S) = sN S + 1 := rfl
    have q := o_fdS_ok (v := v) r (o_fd1_ok (v := v) (r := r) o (by omega)) (by rw [e]; omega)
    exact ⟨q.1, by show sN (o_fdS v r (o_fd1 v r S)) = _; rw [q.2, e]; omega⟩
theorem c_feedL {Γ : Zg} {sz : Nat} (g : g_Ok Γ sz) (v : Int32) : ∀ (r f : Nat) {M : Zm} {S : Sg}, r < f → SC sz M S → SO S → sN S + r ≤ 120 → ∃ M', X10_feed_P42 Γ f M sz v (nI r - 1) = some (nI (sN S + r), M') ∧ SC sz M' (o_fdS v r S) ∧ fC sz M M'
  | 0, f + 1, M, S, _, h, o, _ => by
    rw [X10_feed_P42, if_pos (by decide), (gx g).2.2.2.1, h.2.2.1.1]
    exact ⟨M, rfl, h, fC.rf⟩
  | r + 1, f + 1, M, S, hf, h, o, hb => by
    have s : o_T38 sz (sz + 38) := Or.inl rfl
    have s2 : o_T38 sz (sz + 39) := Or.inr rfl
    have F1 : o_F (o_T38 sz) M (z_i M (sz + 39) (sN S) (o_byte v r)) := o_F.i s2
    have F2 : o_F (o_T38 sz) (z_i M (sz + 39) (sN S) (o_byte v r)) (z_i (z_i M (sz + 39) (sN S) (o_byte v r)) (sz + 38) 1 (nI (sN S + 1))) := o_F.i s
    have F := F1.tr F2
    have B : (z_i (z_i M (sz + 39) (sN S) (o_byte v r)) (sz + 38) 1 (nI (sN S + 1))).1 (sz + 38) 1 = nI (sN S + 1) := by rw [z_i_rd, if_pos ⟨rfl, rfl⟩]
    have Y : ∀ k, k < sN S + 1 → (z_i (z_i M (sz + 39) (sN S) (o_byte v r)) (sz + 38) 1 (nI (sN S + 1))).1 (sz + 39) k = if k = sN S then o_byte v r else sY S k := by
      intro k hk
      rw [z_i_rd, if_neg (by omega), z_i_rd]
      by_cases c : k = sN S
      · rw [if_pos ⟨rfl, c⟩, if_pos c]
      · rw [if_neg (fun q => c q.2), if_neg c]
        exact h.2.2.1.2 k (by omega)
    have C : SC sz _ (o_fd1 v r S) := SC.tape h o B Y F
    obtain ⟨M', e', c', f'⟩ := c_feedL g v r f (by omega) C (o_fd1_ok o (by omega)) (by show sN S + 1 + r ≤ 120; omega)
    refine ⟨M', ?_, c', (f_T38C F).tr f'⟩
    have ea : X7_append Γ M (sz + 38) (o_byte v r) = some (z_i (z_i M (sz + 39) (sN S) (o_byte v r)) (sz + 38) 1 (nI (sN S + 1))) := by
      unfold X7_append
      rw [h.2.2.1.1, if_pos (z_ixn (by omega) (by decide)), nI_cl (by omega), (gx g).2.2.2.2.2.2.2.1, z_lts, z_lts, z_i_rd, if_neg (by omega), h.2.2.1.1, nI_s]
    rw [X10_feed_P42, nI_pred, if_neg (nI_pos (by omega)), (gx g).2.2.2.1]
    show ((X7_append Γ M (sz + 38) (o_byte v r)).bind _) = _
    rw [ea, Option.bind_some, show nI r + (-1 : Int32) = nI r - 1 from (Int32.sub_eq_add_neg _ _).symm, show sN S + (r + 1) = sN S + 1 + r by omega]
    exact e'
theorem r_feedL {Γ : Zg} {sz : Nat} (g : g_Ok Γ sz) (v : Int32) : ∀ (r f : Nat) {M : Zm} {S : Sg}, r < f → SM sz M S → SO S → sN S + r ≤ 120 → ∃ M', X11_feed_P41 Γ f M (sz + 51) v (nI r - 1) = some (nI (sN S + r), M') ∧ SM sz M' (o_fdS v r S) ∧ fR sz M M'
  | 0, f + 1, M, S, _, h, o, _ => by
    rw [X11_feed_P41, if_pos (by decide), h.2.2.1.1]
    exact ⟨M, rfl, h, fR.rf⟩
  | r + 1, f + 1, M, S, hf, h, o, hb => by
    have s : o_T57 sz (sz + 51) := Or.inl rfl
    have s2 : o_T57 sz (sz + 57) := Or.inr rfl
    have F1 : o_F (o_T57 sz) M (z_i M (sz + 57) (sN S) (o_byte v r)) := o_F.i s2
    have F2 : o_F (o_T57 sz) (z_i M (sz + 57) (sN S) (o_byte v r)) (z_i (z_i M (sz + 57) (sN S) (o_byte v r)) (sz + 51) 7 (nI (sN S + 1))) := o_F.i s
    have F := F1.tr F2
    have B : (z_i (z_i M (sz + 57) (sN S) (o_byte v r)) (sz + 51) 7 (nI (sN S + 1))).1 (sz + 51) 7 = nI (sN S + 1) := by rw [z_i_rd, if_pos ⟨rfl, rfl⟩]
    have E : (z_i (z_i M (sz + 57) (sN S) (o_byte v r)) (sz + 51) 7 (nI (sN S + 1))).1 (sz + 51) 4 = M.1 (sz + 51) 4 := by rw [z_i_rd, if_neg (by omega), z_i_rd, if_neg (by omega)]
    have Y : ∀ k, k < sN S + 1 → (z_i (z_i M (sz + 57) (sN S) (o_byte v r)) (sz + 51) 7 (nI (sN S + 1))).1 (sz + 57) k = if k = sN S then o_byte v r else sY S k := by
      intro k hk
      rw [z_i_rd, if_neg (by omega), z_i_rd]
      by_cases c : k = sN S
      · rw [if_pos ⟨rfl, c⟩, if_pos c]
      · rw [if_neg (fun q => c q.2), if_neg c]
        exact h.2.2.1.2 k (by omega)
    have C : SM sz _ (o_fd1 v r S) := SM.tape h B E Y F
    obtain ⟨M', e', c', f'⟩ := r_feedL g v r f (by omega) C (o_fd1_ok o (by omega)) (by show sN S + 1 + r ≤ 120; omega)
    refine ⟨M', ?_, c', (f_T57R F).tr f'⟩
    rw [X11_feed_P41, nI_pred, if_neg (nI_pos (by omega)), h.2.2.1.1, if_pos (z_ixn (by omega) (by decide)), nI_cl (by omega), (gm g).2.2.2.2.2.1, z_lts, z_lts]
    show X11_feed_P41 Γ f (z_i (z_i M (sz + 57) (sN S) (o_byte v r)) (sz + 51) 7 ((z_i M (sz + 57) (sN S) (o_byte v r)).1 (sz + 51) 7 + 1)) (sz + 51) v (nI r + -1) = _
    rw [z_i_rd M (sz + 57), if_neg (by omega), h.2.2.1.1, nI_s, show nI r + (-1 : Int32) = nI r - 1 from (Int32.sub_eq_add_neg _ _).symm, show sN S + (r + 1) = sN S + 1 + r by omega]
    exact e'
theorem o_120 {n : Nat} (hn : n ≤ 120) : (120 : Int32) - nI n = nI (120 - n) := by
  have e : (120 : Int32) = nI (120 - n) + nI n := by
    rw [nI_add, show 120 - n + n = 120 by omega]; rfl
  rw [e]
  exact Int32.add_sub_cancel _ _
theorem e_feed {Γ : Zg} {sz : Nat} (g : g_Ok Γ sz) {S : Sg} (o : SO S) (v a : Int32) : eS sz (fun M => X10_feed Γ M sz v a) (fun M => X11_feed Γ M (sz + 51) v a) S := by
  unfold X10_feed X11_feed
  by_cases d : a < 1 ∨ 4 < a
  · refine eS.fd g o 0 (x := -1000000001) (by decide) (by decide) (fun M _ => ?_) (fun M _ => by rw [if_pos ((x_in2 1 4 a (by decide) (by decide)).mpr d)])
    by_cases e : a < 1
    · rw [if_pos e]
    · rw [if_neg e, if_neg (fun q => Int32.not_le.mpr (d.resolve_left e) q)]
  · refine eS.ch (fun M _ => by rw [if_neg (fun q => d (Or.inl q)), if_pos (Int32.not_lt.mp (fun q => d (Or.inr q)))]) (fun M _ => by rw [if_neg (fun q => d ((x_in2 1 4 a (by decide) (by decide)).mp q))]) ?_
    obtain ⟨n, hn1, hn, rfl⟩ := i_lt1 (n := 4) (by decide) (fun q => d (Or.inl q)) (fun q => d (Or.inr q))
    have hN := o.2.2.1.1
    refine eS.ite (sN S + n ≤ 120) (fun M h => by rw [(gx g).2.2.2.1, h.2.2.1.1, o_120 hN, nI_leI (by omega) (by omega)]; omega) (fun M h => by rw [h.2.2.1.1, nI_add, show (120 : Int32) = nI 120 from rfl, nI_leI (by omega) (by omega)]) (fun c => ?_) (fun _ => eS.fd1 g o 1 (by decide) (by decide))
    exact ⟨nI (sN S + n), o_fdS v n S, fun M h => c_feedL g v n 1000 (by omega) h o c, fun M h => r_feedL g v n 1000 (by omega) h o c, (o_fdS_ok n o c).1⟩
