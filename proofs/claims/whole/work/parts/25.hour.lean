/-! the hour's end: who goes, who comes -/
def o_sq (P : Pk) (x : Option Nat) : Pk := match x with
  | none => P
  | some i => o_sit1 P i
def o_gb (P : Pk) (x : Option Nat) : Int32 := match x with
  | none => 0
  | some i => if o_st P i ≤ pV P i 4 + 1 then (1 : Int32) <<< (nI i &&& 31) else 0
theorem o_0or (x : Int32) : 0 ||| x = x := by
  apply Int32.toBitVec_inj.mp
  simp
theorem o_G.or {x y : Int32} {g g' : Nat → Bool} (h : o_G x g) (h' : o_G y g') : o_G (x ||| y) (fun i => g i || g' i) := by
  obtain ⟨q, hq, rfl, ht⟩ := h
  obtain ⟨q', hq', rfl, ht'⟩ := h'
  exact ⟨q ||| q', Nat.or_lt_two_pow (n := 8) hq hq', o_orI _ _, fun p hp => by rw [Nat.testBit_or, ht p hp, ht' p hp]⟩
theorem o_gbG (P : Pk) {x : Option Nat} (hx : ∀ i, x = some i → i < 8) : o_G (o_gb P x) (fun i => decide (x = some i ∧ o_st P i ≤ pV P i 4 + 1)) := by
  cases x with
  | none => exact o_G0.cong (fun p _ => by simp)
  | some i =>
    unfold o_gb
    by_cases c : o_st P i ≤ pV P i 4 + 1
    · have h := o_G0.add (hx i rfl)
      rw [o_0or] at h
      show o_G (if o_st P i ≤ pV P i 4 + 1 then (1 : Int32) <<< (nI i &&& 31) else 0) _
      rw [if_pos c]
      refine h.cong (fun p _ => ?_)
      by_cases e : p = i
      · subst e; simp [c]
      · simp [e, Ne.symm e]
    · show o_G (if o_st P i ≤ pV P i 4 + 1 then (1 : Int32) <<< (nI i &&& 31) else 0) _
      rw [if_neg c]
      refine o_G0.cong (fun p _ => ?_)
      by_cases e : p = i
      · subst e; simp [c]
      · simp [Ne.symm e]
theorem o_sq_E (P : Pk) (x : Option Nat) : pN (o_sq P x) = pN P ∧ pH (o_sq P x) = pH P ∧ pS (o_sq P x) = pS P ∧ pL (o_sq P x) = pL P := by
  cases x with
  | none => exact ⟨rfl, rfl, rfl, rfl⟩
  | some i => exact o_sit1_E P i
theorem c_sq {Γ : Zg} {M : Zm} {a : Nat} {P : Pk} (hP : g_P Γ a) (h : o_C M a P) (ok : o_ok P) {x : Option Nat} (hx : ∀ i, x = some i → i < pN P) : ∃ M', X3_sitOn Γ M a (o_oI x) = some (o_gb P x, M') ∧ o_C M' a (o_sq P x) ∧ o_F (o_cS a) M M' := by
  cases x with
  | none =>
    refine ⟨M, ?_, h, o_F.rf⟩
    unfold X3_sitOn
    rw [if_pos (show o_oI none = -1 from rfl)]
    rfl
  | some i => exact c_sitOn hP h ok (hx i rfl)
theorem o_sitv_cong {P Q : Pk} {i : Nat} (h : ∀ j, pV Q i j = pV P i j) (j : Nat) : o_sitv Q i j = o_sitv P i j ∧ o_st Q i = o_st P i := by
  have e : o_st Q i = o_st P i := by unfold o_st; rw [h 0, h 1]
  unfold o_sitv
  rw [e, h 3, h 4, h j]
  exact ⟨rfl, rfl⟩
theorem o_sq_v {P : Pk} {x : Option Nat} (hx : ∀ i, x = some i → pV P i 3 ≠ -1) (a b : Nat) : pV (o_sq P x) a b = if x = some a then o_sitv P a b else pV P a b := by
  cases x with
  | none => rw [if_neg (by simp)]; rfl
  | some i =>
    show pV (o_sit1 P i) a b = _
    rw [o_sit1_v (hx i rfl)]
    by_cases e : a = i
    · subst e; simp
    · rw [if_neg e, if_neg (by simp [Ne.symm e])]
theorem o_seat01 {P : Pk} (ok : o_ok P) {i : Nat} (hi : i < pN P) (h : pV P i 3 ≠ -1) : o_hd P 0 = some i ∨ o_hd P 1 = some i := by
  rcases (ok.2.2.2.1 i hi).2.2.2.1 with e | e | e
  · exact absurd e h
  · exact Or.inl (o_hd_is ok (by decide) hi e)
  · exact Or.inr (o_hd_is ok (by decide) hi e)
/-- the two that sit, one behind the other: all that sit -/
theorem o_sit2 {P : Pk} (ok : o_ok P) : o_E (o_sq (o_sq P (o_hd P 0)) (o_hd P 1)) (o_sit P) ∧ (∀ i, o_hd P 1 = some i → (o_st (o_sq P (o_hd P 0)) i = o_st P i ∧ pV (o_sq P (o_hd P 0)) i 4 = pV P i 4)) := by
  have h0 : ∀ i, o_hd P 0 = some i → pV P i 3 ≠ -1 := fun i h => by rw [(o_hd_some h).2]; decide
  have h1 : ∀ i, o_hd P 1 = some i → pV P i 3 ≠ -1 := fun i h => by rw [(o_hd_some h).2]; decide
  have hne : ∀ i, o_hd P 1 = some i → o_hd P 0 ≠ some i := fun i h e => by
    have a1 := (o_hd_some h).2
    have a2 := (o_hd_some e).2
    rw [a1] at a2
    exact absurd a2 (by decide)
  have hq : ∀ i, o_hd P 1 = some i → ∀ j, pV (o_sq P (o_hd P 0)) i j = pV P i j := fun i h j => by
    rw [o_sq_v h0, if_neg (hne i h)]
  obtain ⟨q1, q2, q3, q4⟩ := o_sq_E P (o_hd P 0)
  obtain ⟨p1, p2, p3, p4⟩ := o_sq_E (o_sq P (o_hd P 0)) (o_hd P 1)
  refine ⟨⟨p1.trans q1, p2.trans q2, p3.trans q3, p4.trans q4, fun i hi j hj => ?_⟩, fun i h => ⟨(o_sitv_cong (hq i h) 0).2, hq i h 4⟩⟩
  rw [p1, q1] at hi
  rw [o_sq_v (fun i h => by rw [hq i h 3]; exact h1 i h)]
  show _ = o_sitv P i j
  by_cases c1 : o_hd P 1 = some i
  · rw [if_pos c1, (o_sitv_cong (hq i c1) j).1]
  · rw [if_neg c1, o_sq_v h0]
    by_cases c0 : o_hd P 0 = some i
    · rw [if_pos c0]
    · rw [if_neg c0]
      have : pV P i 3 = -1 := by
        by_cases e : pV P i 3 = -1
        · exact e
        · rcases o_seat01 ok hi e with g | g
          · exact absurd g c0
          · exact absurd g c1
      unfold o_sitv
      rw [if_pos this]
theorem o_gone2 {P : Pk} (ok : o_ok P) : o_G (o_gb P (o_hd P 0) ||| o_gb (o_sq P (o_hd P 0)) (o_hd P 1)) (fun i => decide (i < pN P) && o_gone P i) := by
  have h8 := ok.1
  have e : o_gb (o_sq P (o_hd P 0)) (o_hd P 1) = o_gb P (o_hd P 1) := by
    have := (o_sit2 ok).2
    cases hh : o_hd P 1 with
    | none => rfl
    | some i =>
      have := this i hh
      unfold o_gb
      simp only [this.1, this.2]
  rw [e]
  have g0 := o_gbG P (x := o_hd P 0) (fun i h => by have := (o_hd_some h).1; omega)
  have g1 := o_gbG P (x := o_hd P 1) (fun i h => by have := (o_hd_some h).1; omega)
  refine (g0.or g1).cong (fun p hp => ?_)
  unfold o_gone
  by_cases hn : p < pN P
  · by_cases hs : pV P p 3 = -1
    · have a0 : o_hd P 0 ≠ some p := fun h => by have := (o_hd_some h).2; rw [hs] at this; exact absurd this (by decide)
      have a1 : o_hd P 1 ≠ some p := fun h => by have := (o_hd_some h).2; rw [hs] at this; exact absurd this (by decide)
      simp [hs, a0, a1]
    · rcases o_seat01 ok hn hs with g | g
      · simp [hs, g, hn]
      · simp [hs, g, hn]
  · have a0 : o_hd P 0 ≠ some p := fun h => hn (o_hd_some h).1
    have a1 : o_hd P 1 ≠ some p := fun h => hn (o_hd_some h).1
    simp [hn, a0, a1]
theorem o_sit_ok {P : Pk} (ok : o_ok P) : o_ok (o_sit P) := by
  obtain ⟨h1, h2, h3, h4, h5⟩ := ok
  have h3v : ∀ i, o_sitv P i 3 = pV P i 3 ∨ o_sitv P i 3 = -1 := fun i => by
    unfold o_sitv
    split
    · exact Or.inl rfl
    · split
      · exact Or.inr rfl
      · exact Or.inl rfl
  have hv : ∀ i j, j ≠ 3 → j ≠ 4 → o_sitv P i j = pV P i j := fun i j a b => by
    unfold o_sitv
    split
    · rfl
    · split
      · rfl
      · rfl
  refine ⟨h1, h2, h3, fun i hi => ?_, fun i j hi hj e hne => ?_⟩
  · obtain ⟨g0, g1, g2, g3, g5⟩ := h4 i hi
    show (∃ k, k < 6 ∧ o_sitv P i 0 = nI k) ∧ (∃ q, q < 1024 ∧ o_sitv P i 1 = nI q) ∧ (∃ q, q < 1024 ∧ o_sitv P i 2 = nI q) ∧ (o_sitv P i 3 = -1 ∨ o_sitv P i 3 = 0 ∨ o_sitv P i 3 = 1) ∧ (∃ q, q ≤ 9999 ∧ o_sitv P i 5 = nI q)
    rw [hv i 0 (by decide) (by decide), hv i 1 (by decide) (by decide), hv i 2 (by decide) (by decide), hv i 5 (by decide) (by decide)]
    refine ⟨g0, g1, g2, ?_, g5⟩
    rcases h3v i with e | e
    · rw [e]; exact g3
    · exact Or.inl e
  · have e : o_sitv P i 3 = o_sitv P j 3 := e
    have hne : o_sitv P i 3 ≠ -1 := hne
    rcases h3v i with a | a
    · rcases h3v j with b | b
      · rw [a] at e hne
        rw [b] at e
        exact h5 i j hi hj e hne
      · rw [e] at hne; exact absurd b hne
    · exact absurd a hne
/-! filling a seat -/
def o_cb (P : Pk) : Nat := if pL P = -1 then 0 else (pL P).toNatClampNeg + 1
def o_pk (P : Pk) (k : Nat) : Nat := (o_cb P + k - 1) % pN P
def o_nxl (P : Pk) (g : Nat → Bool) : Nat → Nat → Option Nat
  | _, 0 => none
  | k, r + 1 => if pV P (o_pk P k) 3 = -1 ∧ g (o_pk P k) = false then some (o_pk P k) else o_nxl P g (k + 1) r
def o_nx (P : Pk) (g : Nat → Bool) : Option Nat := o_nxl P g 1 (pN P)
def o_come (P : Pk) (s : Int32) (x : Option Nat) : Pk := match x with
  | none => P
  | some p => p_l (p_v (p_v P p 3 s) p 4 0) (nI p)
def o_fill (P : Pk) (s : Int32) (g : Nat → Bool) : Pk := if o_hd P s = none then o_come P s (o_nx P g) else P
theorem o_rem {P : Pk} (ok : o_ok P) (hn : 0 < pN P) {k : Nat} (hk : 1 ≤ k) (hk9 : k ≤ 9) : (pL P + nI k) - (pL P + nI k) / nI (pN P) * nI (pN P) = nI (o_pk P k) ∧ o_pk P k < pN P := by
  have h8 := ok.1
  have e : pL P + nI k = nI (o_cb P + k - 1) ∧ o_cb P ≤ 8 := by
    unfold o_cb
    rcases ok.2.2.1 with e | ⟨q, hq, e⟩
    · rw [if_pos e, e]
      refine ⟨?_, by omega⟩
      have : ∀ k, k ≤ 9 → 1 ≤ k → (-1 : Int32) + nI k = nI (0 + k - 1) := by decide
      exact this k hk9 hk
    · have hne : ¬ pL P = -1 := by
        rw [e]
        have : ∀ q, q < 8 → ¬ nI q = -1 := by decide
        exact this q (by omega)
      rw [if_neg hne, e, nI_cl (by omega), nI_add]
      refine ⟨?_, by omega⟩
      congr 1
      omega
  rw [e.1, pk_rem (by omega) hn (by omega)]
  exact ⟨rfl, Nat.mod_lt _ hn⟩
theorem c_fill {Γ : Zg} {M : Zm} {a : Nat} {P : Pk} (hP : g_P Γ a) (h : o_C M a P) (ok : o_ok P) {s : Int32} (hs : s = 0 ∨ s = 1) {x : Int32} {g : Nat → Bool} (hg : o_G x g) : ∃ M', X3_fill Γ M a s x = some M' ∧ o_C M' a (o_fill P s g) ∧ o_F (o_cS a) M M' := by
  have h8 := ok.1
  have hs1 : s ≠ -1 := by rcases hs with rfl | rfl <;> decide
  have loop : ∀ f k r, 1 ≤ k → k + r = pN P + 1 → r < f → ∃ M', X3_fill_P12 Γ f M a s x (nI k) = some M' ∧ o_C M' a (o_come P s (o_nxl P g k r)) ∧ o_F (o_cS a) M M' := by
    intro f
    induction f with
    | zero => intro k r _ _ h; omega
    | succ f ih =>
      intro k r hk hkr hf
      rw [X3_fill_P12, h.1, h.2.2.2.1]
      cases r with
      | zero =>
        rw [if_pos (nI_lt (by omega) (by omega))]
        exact ⟨M, rfl, h, o_F.rf⟩
      | succ r =>
        have hn : 0 < pN P := by omega
        obtain ⟨e1, e2⟩ := o_rem ok hn hk (by omega)
        rw [if_neg (nI_nlt (by omega) (by omega)), if_pos (nI_ne0 hn (by omega)), e1, if_pos (z_ixn (by omega) (by decide)), nI_cl (by omega), hP.1 _ (by omega), h.2.2.2.2 _ e2 3 (by decide), if_pos (z_ixn (by omega) (by decide))]
        have ih' := ih (k + 1) r (by omega) (by omega) (by omega)
        rw [nI_s]
        rw [o_nxl]
        by_cases c1 : pV P (o_pk P k) 3 = -1
        · rw [if_pos c1]
          by_cases c2 : g (o_pk P k) = false
          · rw [if_pos ((hg.holds (by omega)).mpr c2), if_pos ⟨c1, c2⟩]
            have hS : o_cS a (a + 2 + o_pk P k) := ⟨by omega, by omega⟩
            have hSa : o_cS a a := ⟨by omega, by omega⟩
            exact ⟨_, rfl, ((h.v s e2 (j := 3) (by decide)).v 0 e2 (j := 4) (by decide)).l (nI (o_pk P k)), ((o_F.i hS).tr (o_F.i hS)).tr (o_F.i hSa)⟩
          · rw [if_neg (fun e => c2 ((hg.holds (by omega)).mp e)), if_neg (fun e => c2 e.2)]
            exact ih'
        · rw [if_neg c1, if_neg (fun e => c1 e.1)]
          exact ih'
  unfold X3_fill o_fill
  rw [c_hold hP h ok hs1, Option.bind_some]
  cases hh : o_hd P s with
  | none =>
    rw [if_pos (show o_oI none = -1 from rfl), if_pos rfl]
    exact loop 1000 1 (pN P) (by omega) (by omega) (by omega)
  | some i =>
    have hi := (o_hd_some hh).1
    have hne : ¬ nI i = -1 := by
      have : ∀ i, i < 8 → ¬ nI i = -1 := by decide
      exact this i (by omega)
    rw [if_neg (show ¬ o_oI (some i) = -1 from hne), if_neg (by simp)]
    exact ⟨M, rfl, h, o_F.rf⟩
theorem o_come_ok {P : Pk} (ok : o_ok P) {s : Int32} (hs : s = 0 ∨ s = 1) (hn : o_hd P s = none) {p : Nat} (hp : p < pN P) : o_ok (o_come P s (some p)) := by
  obtain ⟨h1, h2, h3, h4, h5⟩ := ok
  have hv : ∀ i j, pV (o_come P s (some p)) i j = if i = p ∧ j = 4 then 0 else if i = p ∧ j = 3 then s else pV P i j := fun i j => rfl
  refine ⟨h1, h2, Or.inr ⟨p, hp, rfl⟩, fun i hi => ?_, fun i j hi hj e hne => ?_⟩
  · obtain ⟨g0, g1, g2, g3, g5⟩ := h4 i hi
    simp only [hv]
    refine ⟨by simpa using g0, by simpa using g1, by simpa using g2, ?_, by simpa using g5⟩
    rw [if_neg (by omega)]
    split
    · rcases hs with rfl | rfl
      · exact Or.inr (Or.inl rfl)
      · exact Or.inr (Or.inr rfl)
    · exact g3
  · have hi' : i < pN P := hi
    have hj' : j < pN P := hj
    have hv3 : ∀ i, pV (o_come P s (some p)) i 3 = if i = p then s else pV P i 3 := fun i => by rw [hv]; simp
    rw [hv3, hv3] at e
    rw [hv3] at hne
    by_cases c1 : i = p
    · by_cases c2 : j = p
      · omega
      · rw [if_pos c1, if_neg c2] at e
        exact absurd e.symm (o_hd_none hn hj')
    · rw [if_neg c1] at e hne
      by_cases c2 : j = p
      · rw [if_pos c2] at e
        exact absurd e (o_hd_none hn hi')
      · rw [if_neg c2] at e
        exact h5 i j hi' hj' e hne
theorem o_nxl_lt {P : Pk} {g : Nat → Bool} (hn : 0 < pN P) : ∀ {r k p : Nat}, o_nxl P g k r = some p → p < pN P
  | 0, _, _, h => by cases h
  | r + 1, k, p, h => by
    rw [o_nxl] at h
    by_cases c : pV P (o_pk P k) 3 = -1 ∧ g (o_pk P k) = false
    · rw [if_pos c] at h
      cases h
      exact Nat.mod_lt _ hn
    · rw [if_neg c] at h
      exact o_nxl_lt hn h
theorem o_nx_lt {P : Pk} {g : Nat → Bool} {p : Nat} (h : o_nx P g = some p) : p < pN P := by
  unfold o_nx at h
  by_cases hn : 0 < pN P
  · exact o_nxl_lt hn h
  · rw [show pN P = 0 by omega] at h
    cases h
theorem o_fill_ok {P : Pk} (ok : o_ok P) {s : Int32} (hs : s = 0 ∨ s = 1) (g : Nat → Bool) : o_ok (o_fill P s g) := by
  unfold o_fill
  split
  · rename_i hn
    cases hx : o_nx P g with
    | none => exact ok
    | some p => exact o_come_ok ok hs hn (o_nx_lt hx)
  · exact ok
