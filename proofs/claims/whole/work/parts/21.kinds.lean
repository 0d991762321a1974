/-! what one says, whom one trusts, how long one stays: class and reference -/
def o_bc (x : Int32) : Int32 := J6_bitCount_0f7a4 x
def o_least (x : Int32) : Int32 := (X10_least x).getD 0
def o_great (x : Int32) : Int32 := (X10_greatest x).getD 0
theorem t_many : ∀ q, q < 1024 → X11_many (nI q) = some (o_bc (nI q)) := by decide +kernel
theorem t_least : ∀ q, q < 1024 → X10_least (nI q) = some (o_least (nI q)) := by decide +kernel
theorem t_first : ∀ q, q < 1024 → X11_first (nI q) = some (o_least (nI q)) := by decide +kernel
theorem t_great : ∀ q, q < 1024 → X10_greatest (nI q) = some (o_great (nI q)) := by decide +kernel
theorem t_last : ∀ q, q < 1024 → X11_last (nI q) = some (o_great (nI q)) := by decide +kernel
theorem t_leastR : ∀ q, q < 1024 → o_least (nI q) = -1 ∨ ∃ k, k < 10 ∧ o_least (nI q) = nI k := by decide +kernel
theorem t_greatR : ∀ q, q < 1024 → o_great (nI q) = -1 ∨ ∃ k, k < 10 ∧ o_great (nI q) = nI k := by decide +kernel
def o_hod (P : Pk) : Int32 := pH P - pH P / 24 * 24
def o_mon (P : Pk) : Prop := (pH P / 24) - (pH P / 24) / 7 * 7 = 0
def o_pl (kn be : Int32) : Int32 := if be = 0 then o_least kn else o_least be
def o_sayk (k kn be sh h : Int32) : Int32 := if k = 1 then o_great kn else if k = 2 then (if sh = 0 then o_pl kn be else o_least sh) else if k = 3 then -1 else if k = 4 then (if 12 ≤ h then o_great kn else -1) else if k = 5 then (if h - h / 6 * 6 = 0 then o_pl kn be else -1) else o_pl kn be
def o_say (P : Pk) (i : Nat) : Int32 := if o_hod P < 22 then o_sayk (pV P i 0) (pV P i 1) (pV P i 2) (pS P) (o_hod P) else -1
/-- sh: 1 if the secret is sham -/
def o_trk (k sh n : Int32) : Int32 := if k = 1 then 1 else if k = 2 then (if sh = 0 then 1 else 0) else if k = 3 then (if sh = 0 then 1 else if 3 ≤ n then (if n < 5 then 0 else 1) else 1) else if k = 4 then 1 else if k = 5 then (if sh = 0 then 1 else 0) else (if sh = 0 then 1 else if 3 ≤ n then 0 else 1)
def o_tr (P : Pk) (i : Nat) (x : Int32) : Int32 := o_trk (pV P i 0) (X10_holds (pS P) x) (o_bc (pV P i 1))
def o_stk (k kn : Int32) : Int32 := if k = 1 then 4 else if k = 2 then 9 else if k = 3 then 6 else if k = 4 then 4 + o_bc kn / 4 else if k = 5 then 6 else 3
def o_st (P : Pk) (i : Nat) : Int32 := o_stk (pV P i 0) (pV P i 1)
theorem o_disp {α : Type} (z : Nat) (A B C D E F : α) : (z = 4 → (if z = 4 then A else if z = 0 then B else if z = 1 then C else if z = 9 then D else if z = 2 then E else F) = A) ∧ (z = 0 → (if z = 4 then A else if z = 0 then B else if z = 1 then C else if z = 9 then D else if z = 2 then E else F) = B) ∧ (z = 1 → (if z = 4 then A else if z = 0 then B else if z = 1 then C else if z = 9 then D else if z = 2 then E else F) = C) ∧ (z = 9 → (if z = 4 then A else if z = 0 then B else if z = 1 then C else if z = 9 then D else if z = 2 then E else F) = D) ∧ (z = 2 → (if z = 4 then A else if z = 0 then B else if z = 1 then C else if z = 9 then D else if z = 2 then E else F) = E) ∧ (z = 6 → (if z = 4 then A else if z = 0 then B else if z = 1 then C else if z = 9 then D else if z = 2 then E else F) = F) := by
  refine ⟨fun h => by simp [h], fun h => by simp [h], fun h => by simp [h], fun h => by simp [h], fun h => by simp [h], fun h => by simp [h]⟩
theorem c_plain {M : Zm} {b c : Nat} (h1 : ∃ q, q < 1024 ∧ M.1 c 1 = nI q) (h2 : ∃ q, q < 1024 ∧ M.1 c 2 = nI q) : X4_saysAsPerson M b c = some (o_pl (M.1 c 1) (M.1 c 2)) := by
  obtain ⟨q1, g1, e1⟩ := h1
  obtain ⟨q2, g2, e2⟩ := h2
  unfold X4_saysAsPerson o_pl
  by_cases hz : M.1 c 2 = 0
  · rw [if_pos hz, if_pos hz, e1, t_least q1 g1]; rfl
  · rw [if_neg hz, if_neg hz, e2, t_least q2 g2]; rfl
theorem c_say {Γ : Zg} {M : Zm} {a : Nat} {P : Pk} (hP : g_P Γ a) (h : o_C M a P) (ok : o_ok P) {i : Nat} (hi : i < pN P) : X3_saidBy Γ M a (nI i) = some (o_say P i) := by
  obtain ⟨h8, ⟨qs, gs, es⟩, -, hv, -⟩ := ok
  obtain ⟨⟨k, hk, ek⟩, ⟨q1, g1, e1⟩, ⟨q2, g2, e2⟩, -, -⟩ := hv i hi
  obtain ⟨-, hs, hh, -, hf⟩ := h
  unfold X3_saidBy o_say
  have eh : X3_hourOfDay M a = o_hod P := by unfold X3_hourOfDay o_hod; rw [hh]
  rw [eh]
  by_cases c1 : o_hod P < 22
  · rw [if_pos c1, if_pos c1, if_pos (z_ixn (by omega) (by decide)), nI_cl (by omega), hP.1 i (by omega), hf i hi 0 (by decide), ek, if_pos (z_ixn hk (by decide)), nI_cl (by omega), hs]
    have f1 := hf i hi 1 (by decide)
    have f2 := hf i hi 2 (by decide)
    have hpl : ∀ b, X4_saysAsPerson M b (a + 2 + i) = some (o_pl (pV P i 1) (pV P i 2)) := fun b => by rw [c_plain ⟨q1, g1, by rw [f1, e1]⟩ ⟨q2, g2, by rw [f2, e2]⟩, f1, f2]
    have hgr : X10_greatest (M.1 (a + 2 + i) 1) = some (o_great (pV P i 1)) := by rw [f1, e1, t_great q1 g1]
    have hz := hP.2 k hk
    rcases (show k = 0 ∨ k = 1 ∨ k = 2 ∨ k = 3 ∨ k = 4 ∨ k = 5 by omega) with rfl | rfl | rfl | rfl | rfl | rfl
    · refine ((o_disp _ _ _ _ _ _ _).1 hz).trans ?_
      unfold X4_says
      rw [hpl]; rfl
    · refine ((o_disp _ _ _ _ _ _ _).2.1 hz).trans ?_
      unfold X0_says
      rw [hgr]; rfl
    · refine ((o_disp _ _ _ _ _ _ _).2.2.1 hz).trans ?_
      unfold X1_says
      show _ = some (if pS P = 0 then o_pl (pV P i 1) (pV P i 2) else o_least (pS P))
      by_cases c2 : pS P = 0
      · rw [if_pos c2, if_pos c2, hpl]; rfl
      · rw [if_neg c2, if_neg c2, es, t_least qs gs]; rfl
    · exact ((o_disp _ _ _ _ _ _ _).2.2.2.1 hz).trans rfl
    · refine ((o_disp _ _ _ _ _ _ _).2.2.2.2.1 hz).trans ?_
      unfold X2_says X0_says
      show _ = some (if 12 ≤ o_hod P then o_great (pV P i 1) else -1)
      by_cases c2 : 12 ≤ o_hod P
      · rw [if_pos c2, if_pos c2, hgr]; rfl
      · rw [if_neg c2, if_neg c2]; rfl
    · refine ((o_disp _ _ _ _ _ _ _).2.2.2.2.2 hz).trans ?_
      unfold X6_says
      show _ = some (if o_hod P - o_hod P / 6 * 6 = 0 then o_pl (pV P i 1) (pV P i 2) else -1)
      by_cases c2 : o_hod P - o_hod P / 6 * 6 = 0
      · rw [if_pos c2, if_pos c2, hpl]; rfl
      · rw [if_neg c2, if_neg c2]; rfl
  · rw [if_neg c1, if_neg c1]
theorem c_tr {Γ : Zg} {M : Zm} {a : Nat} {P : Pk} (hP : g_P Γ a) (h : o_C M a P) (ok : o_ok P) {i : Nat} (hi : i < pN P) (x : Int32) : X3_isTrusted Γ M a (nI i) x = some (o_tr P i x) := by
  obtain ⟨h8, -, -, hv, -⟩ := ok
  obtain ⟨⟨k, hk, ek⟩, ⟨q1, g1, e1⟩, ⟨q2, g2, e2⟩, -, -⟩ := hv i hi
  obtain ⟨-, hs, hh, -, hf⟩ := h
  unfold X3_isTrusted o_tr
  rw [if_pos (z_ixn (by omega) (by decide)), nI_cl (by omega), hP.1 i (by omega), hf i hi 0 (by decide), hf i hi 1 (by decide), ek, if_pos (z_ixn hk (by decide)), nI_cl (by omega), hs]
  have hz := hP.2 k hk
  show _ = some (o_trk (nI k) (X10_holds (pS P) x) (J6_bitCount_0f7a4 (pV P i 1)))
  generalize X10_holds (pS P) x = sh
  generalize J6_bitCount_0f7a4 (pV P i 1) = n
  rcases (show k = 0 ∨ k = 1 ∨ k = 2 ∨ k = 3 ∨ k = 4 ∨ k = 5 by omega) with rfl | rfl | rfl | rfl | rfl | rfl
  · refine ((o_disp _ _ _ _ _ _ _).1 hz).trans ?_
    show _ = some (if sh = 0 then 1 else if 3 ≤ n then 0 else 1)
    unfold X4_believes
    repeat' split
    all_goals simp_all
  · exact ((o_disp _ _ _ _ _ _ _).2.1 hz).trans rfl
  · refine ((o_disp _ _ _ _ _ _ _).2.2.1 hz).trans ?_
    show _ = some (if sh = 0 then 1 else 0)
    unfold X1_believes
    repeat' split
    all_goals simp_all
  · refine ((o_disp _ _ _ _ _ _ _).2.2.2.1 hz).trans ?_
    show _ = some (if sh = 0 then 1 else if 3 ≤ n then (if n < 5 then 0 else 1) else 1)
    unfold X9_believes X4_believes
    by_cases c1 : sh = 0
    · simp [c1]
    · by_cases c2 : 3 ≤ n
      · by_cases c3 : n < 5 <;> simp [c1, c2, c3]
      · simp [c1, c2]
  · exact ((o_disp _ _ _ _ _ _ _).2.2.2.2.1 hz).trans rfl
  · refine ((o_disp _ _ _ _ _ _ _).2.2.2.2.2 hz).trans ?_
    show _ = some (if sh = 0 then 1 else 0)
    unfold X6_believes X9_believes X4_believes
    by_cases c1 : sh = 0 <;> simp [c1]
theorem c_st {Γ : Zg} {M : Zm} {a : Nat} {P : Pk} (hP : g_P Γ a) (h : o_C M a P) (ok : o_ok P) {i : Nat} (hi : i < pN P) : X3_stayOf Γ M a (nI i) = some (o_st P i) := by
  obtain ⟨h8, -, -, hv, -⟩ := ok
  obtain ⟨⟨k, hk, ek⟩, ⟨q1, g1, e1⟩, ⟨q2, g2, e2⟩, -, -⟩ := hv i hi
  obtain ⟨-, hs, hh, -, hf⟩ := h
  unfold X3_stayOf o_st
  rw [if_pos (z_ixn (by omega) (by decide)), nI_cl (by omega), hP.1 i (by omega), hf i hi 0 (by decide), ek, if_pos (z_ixn hk (by decide)), nI_cl (by omega)]
  have hz := hP.2 k hk
  rcases (show k = 0 ∨ k = 1 ∨ k = 2 ∨ k = 3 ∨ k = 4 ∨ k = 5 by omega) with rfl | rfl | rfl | rfl | rfl | rfl
  · exact ((o_disp _ _ _ _ _ _ _).1 hz).trans rfl
  · exact ((o_disp _ _ _ _ _ _ _).2.1 hz).trans rfl
  · exact ((o_disp _ _ _ _ _ _ _).2.2.1 hz).trans rfl
  · exact ((o_disp _ _ _ _ _ _ _).2.2.2.1 hz).trans rfl
  · refine ((o_disp _ _ _ _ _ _ _).2.2.2.2.1 hz).trans ?_
    unfold X2_stays
    rw [hf i hi 1 (by decide)]
    rfl
  · exact ((o_disp _ _ _ _ _ _ _).2.2.2.2.2 hz).trans rfl
