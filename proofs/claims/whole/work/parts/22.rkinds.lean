theorem o_at (i j : Nat) : ((4 : Int32) + (6 : Int32) * nI i) + nI j = nI (4 + 6 * i + j) := by
  show nI 4 + nI 6 * nI i + nI j = _
  rw [pk_mul, nI_add, nI_add]
theorem r_its {Γ : Zg} {M : Zm} {m w : Nat} {P : Pk} (hm : z_r Γ m 0 = w) (h : o_R M w P) (h8 : pN P ≤ 8) {i j : Nat} {x : Int32} (hi : i < pN P) (hx : x = nI j) (hj : j < 6) : X11_its Γ M m (nI i) x = some (pV P i j) := by
  unfold X11_its
  rw [hx, o_at, if_pos (z_ixn (by omega) (by decide)), nI_cl (by omega), hm, h.2.2.2.2 i hi j hj]
theorem o_ch {α : Type} (A1 A2 A3 A4 A5 A0 : α) :
    (if nI 0 = (1 : Int32) then A1 else if nI 0 = (2 : Int32) then A2 else if nI 0 = (3 : Int32) then A3 else if nI 0 = (4 : Int32) then A4 else if nI 0 = (5 : Int32) then A5 else A0) = A0 ∧
    (if nI 1 = (1 : Int32) then A1 else if nI 1 = (2 : Int32) then A2 else if nI 1 = (3 : Int32) then A3 else if nI 1 = (4 : Int32) then A4 else if nI 1 = (5 : Int32) then A5 else A0) = A1 ∧
    (if nI 2 = (1 : Int32) then A1 else if nI 2 = (2 : Int32) then A2 else if nI 2 = (3 : Int32) then A3 else if nI 2 = (4 : Int32) then A4 else if nI 2 = (5 : Int32) then A5 else A0) = A2 ∧
    (if nI 3 = (1 : Int32) then A1 else if nI 3 = (2 : Int32) then A2 else if nI 3 = (3 : Int32) then A3 else if nI 3 = (4 : Int32) then A4 else if nI 3 = (5 : Int32) then A5 else A0) = A3 ∧
    (if nI 4 = (1 : Int32) then A1 else if nI 4 = (2 : Int32) then A2 else if nI 4 = (3 : Int32) then A3 else if nI 4 = (4 : Int32) then A4 else if nI 4 = (5 : Int32) then A5 else A0) = A4 ∧
    (if nI 5 = (1 : Int32) then A1 else if nI 5 = (2 : Int32) then A2 else if nI 5 = (3 : Int32) then A3 else if nI 5 = (4 : Int32) then A4 else if nI 5 = (5 : Int32) then A5 else A0) = A5 := ⟨rfl, rfl, rfl, rfl, rfl, rfl⟩
theorem r_plain {Γ : Zg} {M : Zm} {m w : Nat} {P : Pk} (hm : z_r Γ m 0 = w) (h : o_R M w P) (ok : o_ok P) {i : Nat} (hi : i < pN P) : X11_saysPlain Γ M m (nI i) = some (o_pl (pV P i 1) (pV P i 2)) := by
  obtain ⟨h8, -, -, hv, -⟩ := ok
  obtain ⟨-, ⟨q1, g1, e1⟩, ⟨q2, g2, e2⟩, -, -⟩ := hv i hi
  unfold X11_saysPlain o_pl
  rw [r_its (x := 2) hm h h8 hi (j := 2) rfl (by decide), r_its (x := 1) hm h h8 hi (j := 1) rfl (by decide)]
  show (if pV P i 2 = 0 then (X11_first (pV P i 1)).bind (fun r6 => some r6) else (X11_first (pV P i 2)).bind (fun r6 => some r6)) = _
  by_cases c : pV P i 2 = 0
  · rw [if_pos c, if_pos c, e1, t_first q1 g1]; rfl
  · rw [if_neg c, if_neg c, e2, t_first q2 g2]; rfl
theorem r_say {Γ : Zg} {M : Zm} {m w : Nat} {P : Pk} (hm : z_r Γ m 0 = w) (h : o_R M w P) (ok : o_ok P) {i : Nat} (hi : i < pN P) : X11_says Γ M m (nI i) = some (o_say P i) := by
  have hpl := r_plain hm h ok hi
  obtain ⟨h8, ⟨qs, gs, es⟩, -, hv, -⟩ := ok
  obtain ⟨⟨k, hk, ek⟩, ⟨q1, g1, e1⟩, ⟨q2, g2, e2⟩, -, -⟩ := hv i hi
  unfold X11_says o_say
  rw [r_its (x := 0) hm h h8 hi (j := 0) rfl (by decide), r_its (x := 1) hm h h8 hi (j := 1) rfl (by decide), hpl, hm, h.2.2.1, h.2.1]
  show (if o_hod P < 22 then _ else _) = _
  by_cases c1 : o_hod P < 22
  · rw [if_pos c1, if_pos c1]
    show (if pV P i 0 = (1 : Int32) then (X11_last (pV P i 1)).bind (fun r => some r) else if pV P i 0 = (2 : Int32) then (if pS P = 0 then some (o_pl (pV P i 1) (pV P i 2)) else (X11_first (pS P)).bind (fun r => some r)) else if pV P i 0 = (3 : Int32) then some (-1) else if pV P i 0 = (4 : Int32) then (if 12 ≤ o_hod P then (X11_last (pV P i 1)).bind (fun r => some r) else some (-1)) else if pV P i 0 = (5 : Int32) then (if o_hod P - o_hod P / 6 * 6 = 0 then some (o_pl (pV P i 1) (pV P i 2)) else some (-1)) else some (o_pl (pV P i 1) (pV P i 2))) = some (o_sayk (pV P i 0) (pV P i 1) (pV P i 2) (pS P) (o_hod P))
    have hl : X11_last (pV P i 1) = some (o_great (pV P i 1)) := by rw [e1, t_last q1 g1]
    have hf : X11_first (pS P) = some (o_least (pS P)) := by rw [es, t_first qs gs]
    rw [hl, hf]
    unfold o_sayk
    repeat' split
    all_goals first | rfl | simp_all
  · rw [if_neg c1, if_neg c1]
theorem r_tr {Γ : Zg} {M : Zm} {m w : Nat} {P : Pk} (hm : z_r Γ m 0 = w) (h : o_R M w P) (ok : o_ok P) {i : Nat} (hi : i < pN P) (x : Int32) : X11_isTrusted Γ M m (nI i) x = some (o_tr P i x) := by
  obtain ⟨h8, ⟨qs, gs, es⟩, -, hv, -⟩ := ok
  obtain ⟨⟨k, hk, ek⟩, ⟨q1, g1, e1⟩, ⟨q2, g2, e2⟩, -, -⟩ := hv i hi
  have hmn : X11_many (pV P i 1) = some (o_bc (pV P i 1)) := by rw [e1, t_many q1 g1]
  have key : ∀ s0 : Int32, (s0 = 0 ∨ s0 = 1) → X11_isTrusted_P18 Γ M m (nI i) s0 = some (o_trk (pV P i 0) (if s0 = 0 then 1 else 0) (o_bc (pV P i 1))) := by
    intro s0 hs
    unfold X11_isTrusted_P18
    rw [r_its (x := 0) hm h h8 hi (j := 0) rfl (by decide), r_its (x := 1) hm h h8 hi (j := 1) rfl (by decide)]
    show ((X11_many (pV P i 1)).bind _) = _
    rw [hmn, Option.bind_some, Option.bind_some]
    generalize o_bc (pV P i 1) = n
    generalize pV P i 0 = kk
    unfold o_trk
    rcases hs with rfl | rfl
    · by_cases c : n < 3
      · have c2 : ¬ (3 : Int32) ≤ n := Int32.not_le.mpr c
        simp only [c, c2, if_true, if_false]
        repeat' split
        all_goals first | rfl | simp_all
      · have c2 : (3 : Int32) ≤ n := Int32.not_lt.mp c
        simp only [c, c2, if_true, if_false]
        repeat' split
        all_goals first | rfl | simp_all
    · repeat' split
      all_goals first | rfl | simp_all
  unfold X11_isTrusted o_tr X10_holds
  rw [hm, h.2.1]
  by_cases c : (pS P >>> (x &&& 31)) &&& 1 = 0
  · rw [if_pos c, if_pos c, key 1 (Or.inr rfl)]; rfl
  · rw [if_neg c, if_neg c, key 0 (Or.inl rfl)]; rfl
theorem r_st {Γ : Zg} {M : Zm} {m w : Nat} {P : Pk} (hm : z_r Γ m 0 = w) (h : o_R M w P) (ok : o_ok P) {i : Nat} (hi : i < pN P) : X11_stays Γ M m (nI i) = some (o_st P i) := by
  obtain ⟨h8, ⟨qs, gs, es⟩, -, hv, -⟩ := ok
  obtain ⟨⟨k, hk, ek⟩, ⟨q1, g1, e1⟩, ⟨q2, g2, e2⟩, -, -⟩ := hv i hi
  have hmn : X11_many (pV P i 1) = some (o_bc (pV P i 1)) := by rw [e1, t_many q1 g1]
  unfold X11_stays o_st o_stk
  rw [r_its (x := 0) hm h h8 hi (j := 0) rfl (by decide), r_its (x := 1) hm h h8 hi (j := 1) rfl (by decide), Option.bind_some, Option.bind_some, hmn]
  repeat' split
  all_goals first | rfl | simp_all
/-! who is on a seat -/
def o_lm (p : Nat → Bool) : Nat → Option Nat
  | 0 => none
  | n + 1 => if p n = true then some n else o_lm p n
def o_oI : Option Nat → Int32
  | none => -1
  | some i => nI i
def o_hd (P : Pk) (s : Int32) : Option Nat := o_lm (fun i => decide (pV P i 3 = s)) (pN P)
theorem o_lm_some {p : Nat → Bool} : ∀ {n i : Nat}, o_lm p n = some i → i < n ∧ p i = true
  | 0, _, h => by cases h
  | n + 1, i, h => by
    rw [o_lm] at h
    by_cases c : p n = true
    · rw [if_pos c] at h
      cases h
      exact ⟨Nat.lt_succ_self _, c⟩
    · rw [if_neg c] at h
      have := o_lm_some h
      exact ⟨by omega, this.2⟩
theorem o_lm_none {p : Nat → Bool} : ∀ {n : Nat}, o_lm p n = none → ∀ i, i < n → p i = false
  | 0, _, i, hi => absurd hi (Nat.not_lt_zero i)
  | n + 1, h, i, hi => by
    rw [o_lm] at h
    by_cases c : p n = true
    · rw [if_pos c] at h; cases h
    · rw [if_neg c] at h
      by_cases e : i = n
      · subst e; simpa using c
      · exact o_lm_none h i (by omega)
theorem o_lm_is {p : Nat → Bool} : ∀ {n i : Nat}, i < n → p i = true → (∀ j, j < n → p j = true → j = i) → o_lm p n = some i
  | 0, i, hi, _, _ => absurd hi (Nat.not_lt_zero i)
  | n + 1, i, hi, hp, hu => by
    rw [o_lm]
    by_cases c : p n = true
    · rw [if_pos c, hu n (Nat.lt_succ_self _) c]
    · rw [if_neg c]
      have : i ≠ n := fun e => c (e ▸ hp)
      exact o_lm_is (by omega) hp (fun j hj => hu j (by omega))
theorem o_lm_no {p : Nat → Bool} : ∀ {n : Nat}, (∀ i, i < n → p i = false) → o_lm p n = none
  | 0, _ => rfl
  | n + 1, h => by
    rw [o_lm, if_neg (by rw [h n (Nat.lt_succ_self _)]; decide)]
    exact o_lm_no (fun i hi => h i (by omega))
theorem o_hd_some {P : Pk} {s : Int32} {i : Nat} (h : o_hd P s = some i) : i < pN P ∧ pV P i 3 = s := by
  have := o_lm_some h
  exact ⟨this.1, of_decide_eq_true this.2⟩
theorem o_hd_none {P : Pk} {s : Int32} (h : o_hd P s = none) {i : Nat} (hi : i < pN P) : pV P i 3 ≠ s := of_decide_eq_false (o_lm_none h i hi)
theorem o_hd_is {P : Pk} (ok : o_ok P) {s : Int32} (hs : s ≠ -1) {i : Nat} (hi : i < pN P) (h : pV P i 3 = s) : o_hd P s = some i :=
  o_lm_is hi (decide_eq_true h) (fun j hj hp => by
    have hp : pV P j 3 = s := of_decide_eq_true hp
    exact ok.2.2.2.2 j i hj hi (hp.trans h.symm) (by rw [hp]; exact hs))
theorem c_hold {Γ : Zg} {M : Zm} {a : Nat} {P : Pk} (hP : g_P Γ a) (h : o_C M a P) (ok : o_ok P) {s : Int32} (hs : s ≠ -1) : X3_holder Γ M a s = some (o_oI (o_hd P s)) := by
  have h8 := ok.1
  have loop : ∀ f k, k ≤ pN P → (∀ i, i < k → pV P i 3 ≠ s) → pN P - k < f → X3_holder_P2 Γ f M a s (nI k) = some (o_oI (o_hd P s)) := by
    intro f
    induction f with
    | zero => intro k _ _ h; omega
    | succ f ih =>
      intro k hk hno hf
      rw [X3_holder_P2, h.1]
      by_cases e : k = pN P
      · subst e
        rw [if_pos (nI_le (Nat.le_refl _) (by omega))]
        have : o_hd P s = none := o_lm_no (fun i hi => decide_eq_false (hno i hi))
        rw [this]; rfl
      · have hlt : k < pN P := by omega
        rw [if_neg (nI_ge hlt (by omega)), if_pos (z_ixn (by omega) (by decide)), nI_cl (by omega), hP.1 k (by omega), h.2.2.2.2 k hlt 3 (by decide)]
        by_cases c : pV P k 3 = s
        · rw [if_pos c, o_hd_is ok hs hlt c]; rfl
        · rw [if_neg c, nI_s]
          exact ih (k + 1) (by omega) (fun i hi => by
            by_cases e2 : i = k
            · rw [e2]; exact c
            · exact hno i (by omega)) (by omega)
  exact loop 1000 0 (Nat.zero_le _) (fun i hi => absurd hi (Nat.not_lt_zero i)) (by omega)
theorem r_hold {Γ : Zg} {M : Zm} {m w : Nat} {P : Pk} (hm : z_r Γ m 0 = w) (h : o_R M w P) (h8 : pN P ≤ 8) (s : Int32) : X11_sitter Γ M m s = some (o_oI (o_hd P s)) := by
  have loop : ∀ f k, k ≤ pN P → pN P - k < f → X11_sitter_P4 Γ f M m s (o_oI (o_lm (fun i => decide (pV P i 3 = s)) k)) (nI k) = some (o_oI (o_hd P s)) := by
    intro f
    induction f with
    | zero => intro k _ h; omega
    | succ f ih =>
      intro k hk hf
      rw [X11_sitter_P4, hm, h.1]
      by_cases e : k = pN P
      · subst e
        rw [if_pos (nI_le (Nat.le_refl _) (by omega))]
        rfl
      · have hlt : k < pN P := by omega
        rw [if_neg (nI_ge hlt (by omega)), r_its (x := 3) hm h h8 hlt (j := 3) rfl (by decide), Option.bind_some, nI_s]
        have ih' := ih (k + 1) (by omega) (by omega)
        rw [o_lm] at ih'
        by_cases c : pV P k 3 = s
        · rw [if_pos c]
          rw [if_pos (decide_eq_true c)] at ih'
          exact ih'
        · rw [if_neg c]
          rw [if_neg (by simp [c])] at ih'
          exact ih'
  exact loop 1000 0 (Nat.zero_le _) (by omega)
