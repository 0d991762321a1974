/-! the pure side: abstract park, relations between it and the memory -/
abbrev Pk : Type := Nat × Int32 × Int32 × Int32 × (Nat → Nat → Int32)
def pN (P : Pk) : Nat := P.1
def pH (P : Pk) : Int32 := P.2.1
def pS (P : Pk) : Int32 := P.2.2.1
def pL (P : Pk) : Int32 := P.2.2.2.1
def pV (P : Pk) (i j : Nat) : Int32 := P.2.2.2.2 i j
def p_v (P : Pk) (i j : Nat) (x : Int32) : Pk := (pN P, pH P, pS P, pL P, fun a b => if a = i ∧ b = j then x else pV P a b)
def p_h (P : Pk) (x : Int32) : Pk := (pN P, x, pS P, pL P, pV P)
def p_s (P : Pk) (x : Int32) : Pk := (pN P, pH P, x, pL P, pV P)
def p_l (P : Pk) (x : Int32) : Pk := (pN P, pH P, pS P, x, pV P)
theorem pV_v (P : Pk) (i j : Nat) (x : Int32) (a b : Nat) : pV (p_v P i j x) a b = if a = i ∧ b = j then x else pV P a b := rfl
theorem pN_v (P : Pk) (i j : Nat) (x : Int32) : pN (p_v P i j x) = pN P := rfl
theorem pH_v (P : Pk) (i j : Nat) (x : Int32) : pH (p_v P i j x) = pH P := rfl
theorem pS_v (P : Pk) (i j : Nat) (x : Int32) : pS (p_v P i j x) = pS P := rfl
theorem pL_v (P : Pk) (i j : Nat) (x : Int32) : pL (p_v P i j x) = pL P := rfl
theorem z_i_rd (M : Zm) (a k : Nat) (x : Int32) (b l : Nat) : (z_i M a k x).1 b l = if b = a ∧ l = k then x else M.1 b l := by
  unfold z_i va_up upd
  by_cases h : b = a
  · subst h
    by_cases h2 : l = k <;> simp [h2]
  · simp [h]
theorem z_i_2 (M : Zm) (a k : Nat) (x : Int32) : (z_i M a k x).2 = M.2 := rfl
theorem z_l_1 (M : Zm) (a k : Nat) (x : Int64) : (z_l M a k x).1 = M.1 := rfl
theorem z_l_rd (M : Zm) (a k : Nat) (x : Int64) (b l : Nat) : (z_l M a k x).2 b l = if b = a ∧ l = k then x else M.2 b l := by
  unfold z_l va_up vp_updL
  by_cases h : b = a
  · subst h
    by_cases h2 : l = k <;> simp [h2]
  · simp [h]
/-- only cells of S have changed, and no long -/
def o_F (S : Nat → Prop) (M M' : Zm) : Prop := (∀ b, ¬ S b → M'.1 b = M.1 b) ∧ M'.2 = M.2
theorem o_F.rf {S : Nat → Prop} {M : Zm} : o_F S M M := ⟨fun _ _ => rfl, rfl⟩
theorem o_F.tr {S : Nat → Prop} {M M1 M2 : Zm} (h : o_F S M M1) (h2 : o_F S M1 M2) : o_F S M M2 := ⟨fun b hb => (h2.1 b hb).trans (h.1 b hb), h2.2.trans h.2⟩
theorem o_F.mono {S T : Nat → Prop} {M M1 : Zm} (h : o_F S M M1) (hst : ∀ b, S b → T b) : o_F T M M1 := ⟨fun b hb => h.1 b (fun g => hb (hst b g)), h.2⟩
theorem o_F.i {S : Nat → Prop} {M : Zm} {a k : Nat} {x : Int32} (h : S a) : o_F S M (z_i M a k x) := ⟨fun b hb => z_i_ne (fun e => hb (e ▸ h)), rfl⟩
/-- the class' park at a -/
def o_C (M : Zm) (a : Nat) (P : Pk) : Prop := M.1 a 2 = nI (pN P) ∧ M.1 a 3 = pS P ∧ M.1 a 4 = pH P ∧ M.1 a 5 = pL P ∧ ∀ i, i < pN P → ∀ j, j < 6 → M.1 (a + 2 + i) j = pV P i j
/-- the reference's row at a -/
def o_R (M : Zm) (a : Nat) (P : Pk) : Prop := M.1 a 0 = nI (pN P) ∧ M.1 a 2 = pS P ∧ M.1 a 1 = pH P ∧ M.1 a 3 = pL P ∧ ∀ i, i < pN P → ∀ j, j < 6 → M.1 a (4 + 6 * i + j) = pV P i j
def o_cS (a : Nat) : Nat → Prop := fun b => a ≤ b ∧ b < a + 10
def o_rS (a : Nat) : Nat → Prop := fun b => b = a
theorem o_C.keep {M M' : Zm} {a : Nat} {P : Pk} (h : o_C M a P) (h8 : pN P ≤ 8) (hk : ∀ b, a ≤ b → b < a + 10 → M'.1 b = M.1 b) : o_C M' a P := by
  obtain ⟨h1, h2, h3, h4, h5⟩ := h
  have e := hk a (Nat.le_refl _) (by omega)
  refine ⟨by rw [e]; exact h1, by rw [e]; exact h2, by rw [e]; exact h3, by rw [e]; exact h4, fun i hi j hj => ?_⟩
  rw [hk (a + 2 + i) (by omega) (by omega)]
  exact h5 i hi j hj
theorem o_R.keep {M M' : Zm} {a : Nat} {P : Pk} (h : o_R M a P) (hk : M'.1 a = M.1 a) : o_R M' a P := by
  unfold o_R at h ⊢
  rw [hk]
  exact h
theorem o_C.v {M : Zm} {a : Nat} {P : Pk} (h : o_C M a P) {i j : Nat} (x : Int32) (hi : i < pN P) (hj : j < 6) : o_C (z_i M (a + 2 + i) j x) a (p_v P i j x) := by
  obtain ⟨h1, h2, h3, h4, h5⟩ := h
  refine ⟨?_, ?_, ?_, ?_, fun i' hi' j' hj' => ?_⟩
  · rw [z_i_rd, if_neg (by omega)]; exact h1
  · rw [z_i_rd, if_neg (by omega)]; exact h2
  · rw [z_i_rd, if_neg (by omega)]; exact h3
  · rw [z_i_rd, if_neg (by omega)]; exact h4
  · rw [z_i_rd, pV_v]
    by_cases e : i' = i ∧ j' = j
    · rw [if_pos e, if_pos (by omega)]
    · rw [if_neg e, if_neg (by omega)]
      exact h5 i' hi' j' hj'
theorem o_C.h {M : Zm} {a : Nat} {P : Pk} (h : o_C M a P) (x : Int32) : o_C (z_i M a 4 x) a (p_h P x) := by
  obtain ⟨h1, h2, h3, h4, h5⟩ := h
  refine ⟨?_, ?_, ?_, ?_, fun i hi j hj => ?_⟩
  · rw [z_i_rd, if_neg (by omega)]; exact h1
  · rw [z_i_rd, if_neg (by omega)]; exact h2
  · rw [z_i_rd, if_pos (by omega)]; rfl
  · rw [z_i_rd, if_neg (by omega)]; exact h4
  · rw [z_i_rd, if_neg (by omega)]; exact h5 i hi j hj
theorem o_C.s {M : Zm} {a : Nat} {P : Pk} (h : o_C M a P) (x : Int32) : o_C (z_i M a 3 x) a (p_s P x) := by
  obtain ⟨h1, h2, h3, h4, h5⟩ := h
  refine ⟨?_, ?_, ?_, ?_, fun i hi j hj => ?_⟩
  · rw [z_i_rd, if_neg (by omega)]; exact h1
  · rw [z_i_rd, if_pos (by omega)]; rfl
  · rw [z_i_rd, if_neg (by omega)]; exact h3
  · rw [z_i_rd, if_neg (by omega)]; exact h4
  · rw [z_i_rd, if_neg (by omega)]; exact h5 i hi j hj
theorem o_C.l {M : Zm} {a : Nat} {P : Pk} (h : o_C M a P) (x : Int32) : o_C (z_i M a 5 x) a (p_l P x) := by
  obtain ⟨h1, h2, h3, h4, h5⟩ := h
  refine ⟨?_, ?_, ?_, ?_, fun i hi j hj => ?_⟩
  · rw [z_i_rd, if_neg (by omega)]; exact h1
  · rw [z_i_rd, if_neg (by omega)]; exact h2
  · rw [z_i_rd, if_neg (by omega)]; exact h3
  · rw [z_i_rd, if_pos (by omega)]; rfl
  · rw [z_i_rd, if_neg (by omega)]; exact h5 i hi j hj
theorem o_R.v {M : Zm} {a : Nat} {P : Pk} (h : o_R M a P) {i j : Nat} (x : Int32) (hi : i < pN P) (hj : j < 6) : o_R (z_i M a (4 + 6 * i + j) x) a (p_v P i j x) := by
  obtain ⟨h1, h2, h3, h4, h5⟩ := h
  refine ⟨?_, ?_, ?_, ?_, fun i' hi' j' hj' => ?_⟩
  · rw [z_i_rd, if_neg (by omega)]; exact h1
  · rw [z_i_rd, if_neg (by omega)]; exact h2
  · rw [z_i_rd, if_neg (by omega)]; exact h3
  · rw [z_i_rd, if_neg (by omega)]; exact h4
  · rw [z_i_rd, pV_v]
    by_cases e : i' = i ∧ j' = j
    · rw [if_pos e, if_pos (by omega)]
    · rw [if_neg e, if_neg (by omega)]
      exact h5 i' hi' j' hj'
theorem o_R.h {M : Zm} {a : Nat} {P : Pk} (h : o_R M a P) (x : Int32) : o_R (z_i M a 1 x) a (p_h P x) := by
  obtain ⟨h1, h2, h3, h4, h5⟩ := h
  refine ⟨?_, ?_, ?_, ?_, fun i hi j hj => ?_⟩
  · rw [z_i_rd, if_neg (by omega)]; exact h1
  · rw [z_i_rd, if_neg (by omega)]; exact h2
  · rw [z_i_rd, if_pos (by omega)]; rfl
  · rw [z_i_rd, if_neg (by omega)]; exact h4
  · rw [z_i_rd, if_neg (by omega)]; exact h5 i hi j hj
theorem o_R.s {M : Zm} {a : Nat} {P : Pk} (h : o_R M a P) (x : Int32) : o_R (z_i M a 2 x) a (p_s P x) := by
  obtain ⟨h1, h2, h3, h4, h5⟩ := h
  refine ⟨?_, ?_, ?_, ?_, fun i hi j hj => ?_⟩
  · rw [z_i_rd, if_neg (by omega)]; exact h1
  · rw [z_i_rd, if_pos (by omega)]; rfl
  · rw [z_i_rd, if_neg (by omega)]; exact h3
  · rw [z_i_rd, if_neg (by omega)]; exact h4
  · rw [z_i_rd, if_neg (by omega)]; exact h5 i hi j hj
theorem o_R.l {M : Zm} {a : Nat} {P : Pk} (h : o_R M a P) (x : Int32) : o_R (z_i M a 3 x) a (p_l P x) := by
  obtain ⟨h1, h2, h3, h4, h5⟩ := h
  refine ⟨?_, ?_, ?_, ?_, fun i hi j hj => ?_⟩
  · rw [z_i_rd, if_neg (by omega)]; exact h1
  · rw [z_i_rd, if_neg (by omega)]; exact h2
  · rw [z_i_rd, if_neg (by omega)]; exact h3
  · rw [z_i_rd, if_pos (by omega)]; rfl
  · rw [z_i_rd, if_neg (by omega)]; exact h5 i hi j hj
/-- what is right of a park, apart from the hour's bound -/
def o_ok (P : Pk) : Prop := pN P ≤ 8 ∧ (∃ q, q < 1024 ∧ pS P = nI q) ∧ (pL P = -1 ∨ ∃ q, q < pN P ∧ pL P = nI q) ∧
  (∀ i, i < pN P → (∃ k, k < 6 ∧ pV P i 0 = nI k) ∧ (∃ q, q < 1024 ∧ pV P i 1 = nI q) ∧ (∃ q, q < 1024 ∧ pV P i 2 = nI q) ∧ (pV P i 3 = -1 ∨ pV P i 3 = 0 ∨ pV P i 3 = 1) ∧ (∃ q, q ≤ 9999 ∧ pV P i 5 = nI q)) ∧
  ∀ i j, i < pN P → j < pN P → pV P i 3 = pV P j 3 → pV P i 3 ≠ -1 → i = j
/-- parks lie as the constructors laid them -/
def g_P (Γ : Zg) (a : Nat) : Prop := (∀ i, i < 8 → z_r Γ (z_r Γ a 1) i = a + 2 + i) ∧ ∀ k, k < 6 → z_k Γ (z_r Γ (z_r Γ a 0) k) = [4, 0, 1, 9, 2, 6].getD k 0
theorem g_kd {Γ : Zg} {sz : Nat} (g : g_Ok Γ sz) : ∀ k, k < 6 → z_k Γ (z_r Γ (sz + 1) k) = [4, 0, 1, 9, 2, 6].getD k 0 := by
  intro k hk
  rw [(g 1 (by decide)).2 k]
  have h : ∀ k, k < 6 → (g_R.getD 1 []).getD k 0 < 61 ∧ g_K.getD ((g_R.getD 1 []).getD k 0) 0 = [4, 0, 1, 9, 2, 6].getD k 0 := by decide +kernel
  rw [(g _ (h k hk).1).1]
  exact (h k hk).2
theorem g_P8 {Γ : Zg} {sz : Nat} (g : g_Ok Γ sz) : g_P Γ (sz + 8) := by
  refine ⟨fun i hi => ?_, fun k hk => ?_⟩
  · rw [(g 8 (by decide)).2 1]
    show z_r Γ (sz + 9) i = _
    rw [(g 9 (by decide)).2 i]
    have h : ∀ i, i < 8 → (g_R.getD 9 []).getD i 0 = 10 + i := by decide +kernel
    rw [h i hi]; omega
  · rw [(g 8 (by decide)).2 0]
    exact g_kd g k hk
theorem g_P18 {Γ : Zg} {sz : Nat} (g : g_Ok Γ sz) : g_P Γ (sz + 18) := by
  refine ⟨fun i hi => ?_, fun k hk => ?_⟩
  · rw [(g 18 (by decide)).2 1]
    show z_r Γ (sz + 19) i = _
    rw [(g 19 (by decide)).2 i]
    have h : ∀ i, i < 8 → (g_R.getD 19 []).getD i 0 = 20 + i := by decide +kernel
    rw [h i hi]; omega
  · rw [(g 18 (by decide)).2 0]
    exact g_kd g k hk
theorem g_P28 {Γ : Zg} {sz : Nat} (g : g_Ok Γ sz) : g_P Γ (sz + 28) := by
  refine ⟨fun i hi => ?_, fun k hk => ?_⟩
  · rw [(g 28 (by decide)).2 1]
    show z_r Γ (sz + 29) i = _
    rw [(g 29 (by decide)).2 i]
    have h : ∀ i, i < 8 → (g_R.getD 29 []).getD i 0 = 30 + i := by decide +kernel
    rw [h i hi]; omega
  · rw [(g 28 (by decide)).2 0]
    exact g_kd g k hk
theorem z_ixn {i n : Nat} (h : i < n) (hn : n < 2 ^ 31) : z_ix (nI i) n = true := by
  unfold z_ix
  rw [nI_clamp (by omega)]
  simp [nI_pos (n := i) (by omega)]
  exact h
theorem nI_cl {n : Nat} (h : n < 1000000) : (nI n).toNatClampNeg = n := nI_clamp (by omega)
theorem nI_s (n : Nat) : nI n + (1 : Int32) = nI (n + 1) := nI_1 n
