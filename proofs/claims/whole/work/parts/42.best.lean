/-! the least of the best: the class over its scores, the reference as it goes -/
def o_lb (v : Nat → Int32) : Nat → Nat → Nat → Nat
  | 0, _, c => c
  | r + 1, i, c => if v i ≤ v c then o_lb v r (i + 1) c else o_lb v r (i + 1) i
def o_rb (v : Nat → Int32) : Nat → Nat → Int32 → Int32 → Int32
  | 0, _, b, _ => b
  | r + 1, i, b, m => if v i ≤ m then o_rb v r (i + 1) b m else o_rb v r (i + 1) (nI i) (v i)
theorem o_lb_lt (v : Nat → Int32) : ∀ (r i c : Nat), c < i + r → o_lb v r i c < i + r
  | 0, i, c, h => h
  | r + 1, i, c, h => by
    rw [o_lb]
    split
    · have := o_lb_lt v r (i + 1) c (by omega); omega
    · have := o_lb_lt v r (i + 1) i (by omega); omega
theorem o_rbL (v : Nat → Int32) : ∀ (r i c : Nat) (b m : Int32), m = v c → (b = nI c ∨ m = -1) → (∀ j, j < i → v j ≤ m) → (∃ j, j < i + r ∧ -1 < v j) → o_rb v r i b m = nI (o_lb v r i c)
  | 0, i, c, b, m, hm, hb, hv, ⟨j, hj, ej⟩ => by
    rcases hb with hb | hb
    · exact hb
    · have := hv j (by omega)
      rw [hb] at this
      exact absurd ej (Int32.not_lt.mpr this)
  | r + 1, i, c, b, m, hm, hb, hv, ⟨j, hj, ej⟩ => by
    rw [o_rb, o_lb, ← hm]
    by_cases d : v i ≤ m
    · rw [if_pos d, if_pos d]
      refine o_rbL v r (i + 1) c b m hm hb (fun k hk => ?_) ⟨j, by omega, ej⟩
      by_cases e : k = i
      · rw [e]; exact d
      · exact hv k (by omega)
    · rw [if_neg d, if_neg d]
      refine o_rbL v r (i + 1) i (nI i) (v i) rfl (Or.inl rfl) (fun k hk => ?_) ⟨j, by omega, ej⟩
      by_cases e : k = i
      · rw [e]; exact Int32.le_refl _
      · exact Int32.le_trans (hv k (by omega)) (Int32.le_of_lt (Int32.not_le.mp d))
theorem o_rb0 (v : Nat → Int32) {n : Nat} (hn : 1 ≤ n) (b : Int32) (h0 : -1 ≤ v 0) (hj : ∃ j, j < n ∧ -1 < v j) : o_rb v n 0 b (-1) = nI (o_lb v (n - 1) 1 0) := by
  obtain ⟨r, rfl⟩ : ∃ r, n = r + 1 := ⟨n - 1, by omega⟩
  obtain ⟨j, hj, ej⟩ := hj
  rw [o_rb]
  by_cases d : v 0 ≤ -1
  · rw [if_pos d]
    have e0 : v 0 = -1 := Int32.le_antisymm d h0
    exact o_rbL v r 1 0 b (-1) e0.symm (Or.inr rfl) (fun k hk => by rw [show k = 0 by omega, e0]; exact Int32.le_refl _) ⟨j, by omega, ej⟩
  · rw [if_neg d]
    exact o_rbL v r 1 0 (nI 0) (v 0) rfl (Or.inl rfl) (fun k hk => by rw [show k = 0 by omega]; exact Int32.le_refl _) ⟨j, by omega, ej⟩
theorem c_lbL {Γ : Zg} {sz : Nat} (g : g_Ok Γ sz) {M : Zm} {v : Nat → Int32} {n : Nat} (hn : n ≤ 10) (h : ∀ k, k < n → M.1 (sz + 50) k = v k) : ∀ (r f i c : Nat), i + r = n → r < f → c < n → X10_leastOfBest_P4 Γ f M sz (nI n) (nI c) (nI i) = some (nI (o_lb v r i c))
  | 0, f + 1, i, c, hi, _, _ => by
    rw [X10_leastOfBest_P4, if_pos (nI_le (by omega) (by omega))]; rfl
  | r + 1, f + 1, i, c, hi, hf, hc => by
    rw [X10_leastOfBest_P4, if_neg (nI_ge (by omega) (by omega)), if_neg (by rw [show (10 : Int32) = nI 10 from rfl]; exact nI_ge (by omega) (by omega)), if_pos (z_ixn (by omega) (by decide)), if_pos (z_ixn (by omega) (by decide)), nI_cl (by omega), nI_cl (by omega), (gx g).2.2.2.2.2.2.1, h i (by omega), h c hc, nI_s, o_lb]
    by_cases d : v i ≤ v c
    · rw [if_pos d, if_pos d]
      exact c_lbL g hn h r f (i + 1) c (by omega) (by omega) hc
    · rw [if_neg d, if_neg d]
      exact c_lbL g hn h r f (i + 1) i (by omega) (by omega) (by omega)
theorem c_lb {Γ : Zg} {sz : Nat} (g : g_Ok Γ sz) {M : Zm} {v : Nat → Int32} {n : Nat} (hn1 : 1 ≤ n) (hn : n ≤ 10) (h : ∀ k, k < n → M.1 (sz + 50) k = v k) : X10_leastOfBest Γ M sz (nI n) = some (nI (o_lb v (n - 1) 1 0)) :=
  c_lbL g hn h (n - 1) 1000 1 0 (by omega) (by omega) (by omega)
theorem c_best {Γ : Zg} {sz : Nat} (g : g_Ok Γ sz) {S : Sg} (o : SO S) {v : Nat → Int32} {n : Nat} (hn1 : 1 ≤ n) (hn : n ≤ 10) {C : Nat → Zm → Int32 → Option (Int32 × Zm)} (hC : ∀ f M i, i < n → SC sz M S → ∃ M', C (f + 1) M (nI i) = C f M' (nI i + 1) ∧ M'.1 (sz + 50) i = v i ∧ (∀ k, k ≠ i → M'.1 (sz + 50) k = M.1 (sz + 50) k) ∧ o_F (o_A sz) M M') (hE : ∀ f M, SC sz M S → C (f + 1) M (nI n) = (X10_leastOfBest Γ M sz (nI n)).bind (fun r => some (r, M))) : ∀ (r f i : Nat) {M : Zm}, i + r = n → r < f → SC sz M S → (∀ k, k < i → M.1 (sz + 50) k = v k) → ∃ M', C f M (nI i) = some (nI (o_lb v (n - 1) 1 0), M') ∧ SC sz M' S ∧ fC sz M M'
  | 0, f + 1, i, M, hi, _, h, hv => by
    have : i = n := by omega
    subst this
    rw [hE f M h, c_lb g hn1 hn hv, Option.bind_some]
    exact ⟨M, rfl, h, fC.rf⟩
  | r + 1, f + 1, i, M, hi, hf, h, hv => by
    obtain ⟨M1, e1, v1, k1, f1⟩ := hC f M i (by omega) h
    rw [e1, nI_s]
    obtain ⟨M2, e2, c2, f2⟩ := c_best g o hn1 hn hC hE r f (i + 1) (M := M1) (by omega) (by omega) (h.ah o f1) (fun k hk => by
      by_cases c : k = i
      · rw [c]; exact v1
      · rw [k1 k c]; exact hv k (by omega))
    exact ⟨M2, e2, c2, (f_AC f1).tr f2⟩
theorem r_best {Γ : Zg} {sz : Nat} (g : g_Ok Γ sz) {S : Sg} (o : SO S) {v : Nat → Int32} {n : Nat} {L : Nat → Zm → Int32 → Int32 → Int32 → Option (Int32 × Zm)} (hL : ∀ f M b m i, i < n → -1 ≤ m → rA sz S M (sP S) → ∃ M', L (f + 1) M b m (nI i) = (if v i ≤ m then L f M' b m (nI i + 1) else L f M' (nI i) (v i) (nI i + 1)) ∧ rA sz S M' (sP S) ∧ fR sz M M') (hE : ∀ f M b m, 0 ≤ b → L (f + 1) M b m (nI n) = some (b, M)) : ∀ (r f i : Nat) {M : Zm} {b m : Int32}, i + r = n → r < f → -1 ≤ m → rA sz S M (sP S) → 0 ≤ o_rb v r i b m → ∃ M', L f M b m (nI i) = some (o_rb v r i b m, M') ∧ SM sz M' S ∧ fR sz M M'
  | 0, f + 1, i, M, b, m, hi, _, _, h, hb => by
    have : i = n := by omega
    subst this
    rw [hE f M b m hb]
    exact ⟨M, rfl, h.1, fR.rf⟩
  | r + 1, f + 1, i, M, b, m, hi, hf, hm, h, hb => by
    obtain ⟨M1, e1, c1, f1⟩ := hL f M b m i (by omega) hm h
    rw [e1, nI_s]
    rw [o_rb] at hb ⊢
    by_cases d : v i ≤ m
    · rw [if_pos d] at hb ⊢
      rw [if_pos d]
      obtain ⟨M2, e2, c2, f2⟩ := r_best g o hL hE r f (i + 1) (by omega) (by omega) hm c1 hb
      exact ⟨M2, e2, c2, f1.tr f2⟩
    · rw [if_neg d] at hb ⊢
      rw [if_neg d]
      obtain ⟨M2, e2, c2, f2⟩ := r_best g o hL hE r f (i + 1) (by omega) (by omega) (Int32.le_trans hm (Int32.le_of_lt (Int32.not_le.mp d))) c1 hb
      exact ⟨M2, e2, c2, f1.tr f2⟩
theorem e_best {Γ : Zg} {sz : Nat} (g : g_Ok Γ sz) {S : Sg} (o : SO S) {v : Nat → Int32} {n : Nat} (hn1 : 1 ≤ n) (hn : n ≤ 10) {C : Nat → Zm → Int32 → Option (Int32 × Zm)} {L : Nat → Zm → Int32 → Int32 → Int32 → Option (Int32 × Zm)} (b0 : Int32)
    (hC : ∀ f M i, i < n → SC sz M S → ∃ M', C (f + 1) M (nI i) = C f M' (nI i + 1) ∧ M'.1 (sz + 50) i = v i ∧ (∀ k, k ≠ i → M'.1 (sz + 50) k = M.1 (sz + 50) k) ∧ o_F (o_A sz) M M') (hE : ∀ f M, SC sz M S → C (f + 1) M (nI n) = (X10_leastOfBest Γ M sz (nI n)).bind (fun r => some (r, M)))
    (hL : ∀ f M b m i, i < n → -1 ≤ m → rA sz S M (sP S) → ∃ M', L (f + 1) M b m (nI i) = (if v i ≤ m then L f M' b m (nI i + 1) else L f M' (nI i) (v i) (nI i + 1)) ∧ rA sz S M' (sP S) ∧ fR sz M M') (hF : ∀ f M b m, 0 ≤ b → L (f + 1) M b m (nI n) = some (b, M)) (h0 : -1 ≤ v 0) (hj : ∃ j, j < n ∧ -1 < v j) :
    eS sz (fun M => C 1000 M 0) (fun M => (X11_copyRow M (z_r Γ (sz + 51) 0) (z_r Γ (sz + 51) 3)).bind (fun M => L 1000 M b0 (-1) 0)) S := by
  have hb := o_rb0 v hn1 b0 h0 hj
  have hlt := o_lb_lt v (n - 1) 1 0 (by omega)
  refine ⟨nI (o_lb v (n - 1) 1 0), S, fun M h => c_best g o hn1 hn hC hE n 1000 0 (by omega) (by omega) h (fun k hk => absurd hk (by omega)), fun M h => ?_, o⟩
  obtain ⟨M1, e1, c1, f1⟩ := r_start g o h
  obtain ⟨M2, e2, c2, f2⟩ := r_best g o hL hF n 1000 0 (b := b0) (m := -1) (by omega) (by omega) (by decide) c1 (by rw [hb]; exact nI_pos' (by omega))
  refine ⟨M2, ?_, c2, f1.tr f2⟩
  show ((X11_copyRow M (z_r Γ (sz + 51) 0) (z_r Γ (sz + 51) 3)).bind _) = _
  rw [e1, Option.bind_some, ← hb]
  exact e2
