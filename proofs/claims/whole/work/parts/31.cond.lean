def eS (sz : Nat) {α : Type} (A B : Zm → Option (α × Zm)) (S : Sg) : Prop := ∃ r S', cO sz A S r S' ∧ rO sz B S r S' ∧ SO S'
theorem eS.ch {sz : Nat} {α : Type} {A A' B B' : Zm → Option (α × Zm)} {S : Sg} (hA : ∀ M, SC sz M S → A M = A' M) (hB : ∀ M, SM sz M S → B M = B' M) (h : eS sz A' B' S) : eS sz A B S := by
  obtain ⟨r, S', c, m, o⟩ := h
  exact ⟨r, S', fun M hM => by rw [hA M hM]; exact c M hM, fun M hM => by rw [hB M hM]; exact m M hM, o⟩
theorem eS.rd {sz : Nat} {α : Type} {A B : Zm → Option (α × Zm)} {S : Sg} (o : SO S) {r : α} (hA : ∀ M, SC sz M S → A M = some (r, M)) (hB : ∀ M, SM sz M S → B M = some (r, M)) : eS sz A B S :=
  ⟨r, S, fun M hM => ⟨M, hA M hM, hM, fC.rf⟩, fun M hM => ⟨M, hB M hM, hM, fR.rf⟩, o⟩
theorem z_bpi {α β : Type} (x : Option (α × β)) : z_bp x (fun r M => some (r, M)) = x := by
  cases x with
  | none => rfl
  | some p => cases p; rfl
def o_fq (q : Nat → Int32) (k : Nat) : Nat → Int32 := fun i => if i = k then q i + 1 else q i
theorem o_sum_fq (q : Nat → Int32) {k : Nat} (hk : k < 7) : o_sum (o_fq q k) = o_sum q + 1 := by
  have e : ∀ q, o_sum q = 0 + q 0 + q 1 + q 2 + q 3 + q 4 + q 5 + q 6 := fun _ => rfl
  rw [e, e]
  unfold o_fq
  have hk' : k = 0 ∨ k = 1 ∨ k = 2 ∨ k = 3 ∨ k = 4 ∨ k = 5 ∨ k = 6 := by omega
  rcases hk' with rfl | rfl | rfl | rfl | rfl | rfl | rfl <;> simp <;> ac_rfl
theorem c_fd {Γ : Zg} {sz : Nat} (g : g_Ok Γ sz) {S : Sg} (o : SO S) {k : Nat} (hk : k < 7) {x : Int32} (hx : -1000000001 - x = nI k) : cO sz (fun M => X10_finding Γ M sz x) S x (uQ S (o_fq (sQ S) k)) := by
  intro M h
  have G := gx g
  refine ⟨z_i M (sz + 49) k (M.1 (sz + 49) k + 1), ?_, ?_, (o_F.i (S := fun b => b = sz + 49) rfl).fC (fun b hb => by omega)⟩
  · show X10_finding Γ M sz x = _
    unfold X10_finding
    rw [hx, if_neg (nI_pos (by omega)), if_neg (by rw [show (7 : Int32) = nI 7 from rfl]; exact nI_ge (by omega) (by omega)), if_pos (z_ixn hk (by decide)), if_pos (z_ixn hk (by decide)), nI_cl (by omega), G.2.2.2.2.2.1]
    rfl
  · obtain ⟨h1, h2, h3, h4, h5⟩ := h
    have e : ∀ b, b ≠ sz + 49 → (z_i M (sz + 49) k (M.1 (sz + 49) k + 1)).1 b = M.1 b := fun b hb => z_i_ne hb
    refine ⟨h1.keep o.1.1.1 (fun b _ _ => e b (by omega)), ⟨by rw [e _ (by omega)]; exact h2.1, fun q => (h2.2 q).keep ?_ (fun b _ _ => e b (by omega))⟩, ⟨by rw [e _ (by omega)]; exact h3.1, fun k hk => by rw [e _ (by omega)]; exact h3.2 k hk⟩, fun t ht => ?_, fun i hi => ?_⟩
    · rcases o.2.1 with q' | q'
      · exact absurd q' q
      · exact q'.2.1.1
    · rw [e _ (by omega)]
      exact h4 t ht
    · rw [z_i_rd]
      show _ = if i = k then sQ S i + 1 else sQ S i
      by_cases c : i = k
      · rw [if_pos ⟨rfl, c⟩, if_pos c, c, h5 k hk]
      · rw [if_neg (fun q => c q.2), if_neg c, h5 i hi]
theorem r_fd {Γ : Zg} {sz : Nat} (g : g_Ok Γ sz) {S : Sg} {k : Nat} (hk : k < 7) {x : Int32} (hx : -1000000001 - x = nI k) : rO sz (fun M => X11_finds Γ M (sz + 51) x) S x (uQ S (o_fq (sQ S) k)) := by
  intro M h
  have G := gm g
  refine ⟨z_i (z_i M (sz + 56) 0 (M.1 (sz + 56) 0 + 1)) (sz + 56) (k + 1) ((z_i M (sz + 56) 0 (M.1 (sz + 56) 0 + 1)).1 (sz + 56) (k + 1) + 1), ?_, ?_, ((o_F.i (S := fun b => b = sz + 56) rfl).tr (o_F.i rfl)).fR (fun b hb => by omega)⟩
  · show X11_finds Γ M (sz + 51) x = _
    unfold X11_finds
    rw [hx, nI_s, z_lts, if_pos (z_ixn (by omega) (by decide)), if_pos (z_ixn (by omega) (by decide)), nI_cl (by omega), G.2.2.2.2.1]
    rfl
  · obtain ⟨h1, h2, h3, h4, h5, h6⟩ := h
    have e : ∀ b, b ≠ sz + 56 → (z_i (z_i M (sz + 56) 0 (M.1 (sz + 56) 0 + 1)) (sz + 56) (k + 1) ((z_i M (sz + 56) 0 (M.1 (sz + 56) 0 + 1)).1 (sz + 56) (k + 1) + 1)).1 b = M.1 b := fun b hb => by rw [z_i_ne hb, z_i_ne hb]
    refine ⟨h1.keep (e _ (by omega)), ⟨by rw [e _ (by omega)]; exact h2.1, fun q => (h2.2 q).keep (e _ (by omega))⟩, ⟨by rw [e _ (by omega)]; exact h3.1, fun k hk => by rw [e _ (by omega)]; exact h3.2 k hk⟩, fun t ht => ?_, ?_, fun i hi => ?_⟩
    · rw [e _ (by omega), e _ (by omega)]
      exact h4 t ht
    · rw [z_i_rd, if_neg (by omega), z_i_rd, if_pos ⟨rfl, rfl⟩, h5]
      exact (o_sum_fq (sQ S) hk).symm
    · rw [z_i_rd]
      show _ = if i = k then sQ S i + 1 else sQ S i
      by_cases c : i = k
      · rw [if_pos ⟨rfl, by omega⟩, if_pos c, c, z_i_rd, if_neg (by omega), h6 k hk]
      · rw [if_neg (by omega), z_i_rd, if_neg (by omega), if_neg c, h6 i hi]
theorem SO.q {S : Sg} (o : SO S) (q : Nat → Int32) : SO (uQ S q) := o
theorem eS.fd {Γ : Zg} {sz : Nat} (g : g_Ok Γ sz) {A B : Zm → Option (Int32 × Zm)} {S : Sg} (o : SO S) (k : Nat) (hk : k < 7) {x : Int32} (hx : -1000000001 - x = nI k) (hA : ∀ M, SC sz M S → A M = z_bp (X10_finding Γ M sz x) (fun r M => some (r, M))) (hB : ∀ M, SM sz M S → B M = z_bp (X11_finds Γ M (sz + 51) x) (fun r M => some (r, M))) : eS sz A B S :=
  eS.ch (fun M hM => (hA M hM).trans (z_bpi _)) (fun M hM => (hB M hM).trans (z_bpi _)) ⟨x, _, c_fd g o hk hx, r_fd g hk hx, o⟩
theorem i_to64 (a b : Int32) : a.toInt64 < b.toInt64 ↔ a < b := by
  rw [Int64.lt_iff_toInt_lt, Int32.lt_iff_toInt_lt, Int32.toInt_toInt64, Int32.toInt_toInt64]
theorem x_in (a lo hi : Int32) : X11_isIn a.toInt64 lo.toInt64 hi.toInt64 = if a < lo then 0 else if hi < a then 0 else 1 := by
  unfold X11_isIn
  simp only [lg_cmp_lt, lg_cmp_gt, i_to64]
theorem c_hasS {sz : Nat} {M : Zm} {S : Sg} (h : SC sz M S) (a : Int32) : X3_has M (sz + 8) a = if a < 0 then 0 else if nI (pN (sP S)) ≤ a then 0 else 1 := by
  unfold X3_has
  rw [h.1.1]
theorem r_isOneS {Γ : Zg} {sz : Nat} (g : g_Ok Γ sz) {M : Zm} {S : Sg} (h : SM sz M S) (a : Int32) : X11_isOne Γ M (sz + 51) a = if a < 0 then 0 else if nI (pN (sP S)) ≤ a then 0 else 1 := by
  unfold X11_isOne
  rw [(gm g).1, h.1.1]
def o_hs (P : Pk) (a : Int32) : Int32 := if a < 0 then 0 else if nI (pN P) ≤ a then 0 else 1
theorem o_hs1 {P : Pk} (h8 : pN P ≤ 8) {a : Int32} (h : ¬ o_hs P a = 0) : ∃ i, i < pN P ∧ a = nI i := by
  unfold o_hs at h
  by_cases c : a < 0
  · rw [if_pos c] at h; exact absurd rfl h
  · rw [if_neg c] at h
    by_cases d : nI (pN P) ≤ a
    · rw [if_pos d] at h; exact absurd rfl h
    · obtain ⟨j, hj, rfl⟩ := nI_of c
      exact ⟨j, by rw [nI_leI (by omega) hj] at d; omega, rfl⟩
theorem o_rg {x : Int32} {n : Nat} (hn : n < 2 ^ 31) (h : ¬ x < 0) (h5 : ¬ nI n < x) : ∃ j : Nat, j ≤ n ∧ x = nI j := by
  obtain ⟨j, hj, rfl⟩ := nI_of h
  exact ⟨j, by rw [nI_ltI hn hj] at h5; omega, rfl⟩
/-- the class has changed here and ahead at most -/
def o_T8 (sz : Nat) : Nat → Prop := fun b => (sz + 8 ≤ b ∧ b < sz + 28) ∨ b = sz + 50
theorem SC.here {sz : Nat} {M M' : Zm} {S : Sg} (h : SC sz M S) (o : SO S) {P : Pk} (hP : o_C M' (sz + 8) P) (f : o_F (o_T8 sz) M M') : SC sz M' (uP S P) := by
  obtain ⟨h1, h2, h3, h4, h5⟩ := h
  have e : ∀ b, ¬ (sz + 8 ≤ b ∧ b < sz + 28) → b ≠ sz + 50 → M'.1 b = M.1 b := fun b hb hc => f.1 b (fun q => q.elim hb hc)
  refine ⟨hP, ⟨by rw [e _ (by omega) (by omega)]; exact h2.1, fun q => (h2.2 q).keep ?_ (fun b _ _ => e b (by omega) (by omega))⟩, ⟨by rw [e _ (by omega) (by omega)]; exact h3.1, fun k hk => by rw [e _ (by omega) (by omega)]; exact h3.2 k hk⟩, fun t ht => ?_, fun i hi => ?_⟩
  · rcases o.2.1 with q' | q'
    · exact absurd q' q
    · exact q'.2.1.1
  · rw [e _ (by omega) (by omega), f.2]
    exact h4 t ht
  · rw [e _ (by omega) (by omega)]
    exact h5 i hi
theorem o_F.T8 {sz : Nat} {M M' : Zm} (f : o_F (o_cS (sz + 8)) M M') : o_F (o_T8 sz) M M' := f.mono (fun b hb => Or.inl ⟨hb.1, by have := hb.2; omega⟩)
theorem o_F.T18 {sz : Nat} {M M' : Zm} (f : o_F (o_cS (sz + 18)) M M') : o_F (o_T8 sz) M M' := f.mono (fun b hb => Or.inl ⟨by have := hb.1; omega, by have := hb.2; omega⟩)
theorem f_T8C {sz : Nat} {M M' : Zm} (f : o_F (o_T8 sz) M M') : fC sz M M' := f.fC (fun b hb => by rcases hb with q | q <;> omega)
theorem uP_id (S : Sg) : uP S (sP S) = S := rfl
/-- the reference has changed its row, and rows aside at most -/
def o_T52 (sz : Nat) : Nat → Prop := fun b => b = sz + 52 ∨ b = sz + 54 ∨ b = sz + 55
theorem SM.here {sz : Nat} {M M' : Zm} {S : Sg} (h : SM sz M S) {P : Pk} (hP : o_R M' (sz + 52) P) (f : o_F (o_T52 sz) M M') : SM sz M' (uP S P) := by
  obtain ⟨h1, h2, h3, h4, h5, h6⟩ := h
  have e : ∀ b, b ≠ sz + 52 → b ≠ sz + 54 → b ≠ sz + 55 → M'.1 b = M.1 b := fun b hb hc hd => f.1 b (fun q => q.elim hb (fun q => q.elim hc hd))
  refine ⟨hP, ⟨by rw [e _ (by omega) (by omega) (by omega)]; exact h2.1, fun q => (h2.2 q).keep (e _ (by omega) (by omega) (by omega))⟩, ⟨by rw [e _ (by omega) (by omega) (by omega)]; exact h3.1, fun k hk => by rw [e _ (by omega) (by omega) (by omega)]; exact h3.2 k hk⟩, fun t ht => ?_, ?_, fun i hi => ?_⟩
  · rw [e _ (by omega) (by omega) (by omega), e _ (by omega) (by omega) (by omega), f.2]
    exact h4 t ht
  · rw [e _ (by omega) (by omega) (by omega)]
    exact h5
  · rw [e _ (by omega) (by omega) (by omega)]
    exact h6 i hi
theorem o_F.T52 {sz : Nat} {M M' : Zm} (f : o_F (o_rS (sz + 52)) M M') : o_F (o_T52 sz) M M' := f.mono (fun b hb => Or.inl hb)
theorem f_T52R {sz : Nat} {M M' : Zm} (f : o_F (o_T52 sz) M M') : fR sz M M' := f.fR (fun b hb => by rcases hb with q | q | q <;> omega)
