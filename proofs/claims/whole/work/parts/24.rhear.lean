theorem o_atJ {i j : Nat} {x : Int32} (hx : x = nI j) : X11_at (nI i) x = nI (4 + 6 * i + j) := by
  unfold X11_at
  rw [hx, o_at]
theorem p_v_sw (Q : Pk) (i : Nat) (h b : Int32) : o_E (p_v (p_v Q i 5 h) i 2 b) (p_v (p_v Q i 2 b) i 5 h) := by
  refine ⟨rfl, rfl, rfl, rfl, fun a _ j _ => ?_⟩
  simp only [pV_v]
  by_cases c1 : a = i ∧ j = 2
  · rw [if_pos c1, if_neg (by omega), if_pos c1]
  · rw [if_neg c1]
    by_cases c2 : a = i ∧ j = 5
    · rw [if_pos c2, if_pos c2]
    · rw [if_neg c2, if_neg c2, if_neg c1]
theorem r_hear {Γ : Zg} {M : Zm} {m w : Nat} {P : Pk} (hm : z_r Γ m 0 = w) (h : o_R M w P) (ok : o_ok P) {i : Nat} (hi : i < pN P) {x : Int32} (hx : o_sec x) : ∃ M', X11_hears Γ M m (nI i) x = some M' ∧ o_R M' w (o_hear P i x) ∧ o_F (o_rS w) M M' := by
  have h8 := ok.1
  unfold X11_hears o_hear
  rcases hx with rfl | ⟨k, hk, rfl⟩
  · rw [if_neg (by decide), if_pos rfl]
    exact ⟨M, rfl, h, o_F.rf⟩
  · rw [if_pos (show (0 : Int32) ≤ nI k from nI_pos' (by omega)), if_neg (nI_nm1 k hk), r_tr hm h ok hi, Option.bind_some, o_atJ (x := 1) (j := 1) rfl, o_atJ (x := 5) (j := 5) rfl, hm]
    rw [if_pos (z_ixn (by omega) (by decide)), if_pos (z_ixn (by omega) (by decide)), nI_cl (by omega), h.2.2.2.2 i hi 1 (by decide)]
    generalize hbit : (1 : Int32) <<< (nI k &&& 31) = bit
    have hS : o_rS w w := rfl
    have hA := h.v (pV P i 1 ||| bit) hi (j := 1) (by decide)
    have okA : pN (p_v P i 1 (pV P i 1 ||| bit)) ≤ 8 := h8
    have i5 : X11_its Γ (z_i M w (4 + 6 * i + 1) (pV P i 1 ||| bit)) m (nI i) 5 = some (pV P i 5) := by
      rw [r_its (x := 5) hm hA okA hi (j := 5) rfl (by decide), pV_v, if_neg (by omega)]
    show ∃ M', ((X11_its Γ (z_i M w (4 + 6 * i + 1) (pV P i 1 ||| bit)) m (nI i) 5).bind _) = some M' ∧ _
    rw [i5, Option.bind_some]
    have key : ∃ M', X11_hears_P66 Γ (z_i M w (4 + 6 * i + 1) (pV P i 1 ||| bit)) m (nI i) bit (o_tr P i (nI k)) w (nI (4 + 6 * i + 5)) (o_nh (pV P i 5)) = some M' ∧ o_R M' w (p_v (p_v (p_v P i 1 (pV P i 1 ||| bit)) i 2 (if o_tr P i (nI k) = 0 then pV P i 2 &&& (bit ^^^ (-1)) else pV P i 2 ||| bit)) i 5 (o_nh (pV P i 5))) ∧ o_F (o_rS w) M M' := by
      unfold X11_hears_P66
      rw [if_pos (z_ixn (by omega) (by decide)), nI_cl (by omega)]
      have hB := hA.v (o_nh (pV P i 5)) (i := i) hi (j := 5) (by decide)
      have i2 : X11_its Γ (z_i (z_i M w (4 + 6 * i + 1) (pV P i 1 ||| bit)) w (4 + 6 * i + 5) (o_nh (pV P i 5))) m (nI i) 2 = some (pV P i 2) := by
        rw [r_its (x := 2) hm hB okA hi (j := 2) rfl (by decide), pV_v, if_neg (by omega), pV_v, if_neg (by omega)]
      show ∃ M', (if o_tr P i (nI k) = 0 then ((X11_its Γ (z_i (z_i M w (4 + 6 * i + 1) (pV P i 1 ||| bit)) w (4 + 6 * i + 5) (o_nh (pV P i 5))) m (nI i) 2).bind _) else ((X11_its Γ (z_i (z_i M w (4 + 6 * i + 1) (pV P i 1 ||| bit)) w (4 + 6 * i + 5) (o_nh (pV P i 5))) m (nI i) 2).bind _)) = some M' ∧ _
      rw [i2, Option.bind_some, Option.bind_some, o_atJ (x := 2) (j := 2) rfl, if_pos (z_ixn (by omega) (by decide)), if_pos (z_ixn (by omega) (by decide)), hm, nI_cl (by omega)]
      have fr : ∀ y, o_F (o_rS w) M (z_i (z_i (z_i M w (4 + 6 * i + 1) (pV P i 1 ||| bit)) w (4 + 6 * i + 5) (o_nh (pV P i 5))) w (4 + 6 * i + 2) y) := fun y => ((o_F.i hS).tr (o_F.i hS)).tr (o_F.i hS)
      by_cases c : o_tr P i (nI k) = 0
      · rw [if_pos c, if_pos c]
        exact ⟨_, rfl, (hB.v _ hi (by decide)).E (p_v_sw _ _ _ _), fr _⟩
      · rw [if_neg c, if_neg c]
        exact ⟨_, rfl, (hB.v _ hi (by decide)).E (p_v_sw _ _ _ _), fr _⟩
    by_cases c : (9999 : Int32) ≤ pV P i 5
    · rw [if_pos c]
      have e : o_nh (pV P i 5) = 9999 := by unfold o_nh; rw [if_pos c]
      rw [← e]
      exact key
    · rw [if_neg c]
      rw [Option.bind_some]
      have e : o_nh (pV P i 5) = pV P i 5 + 1 := by unfold o_nh; rw [if_neg c]
      rw [← e]
      exact key
theorem p_v_id (Q : Pk) {i j : Nat} {x : Int32} (hx : x = pV Q i j) : o_E (p_v Q i j x) Q := by
  refine ⟨rfl, rfl, rfl, rfl, fun a _ b _ => ?_⟩
  rw [pV_v]
  by_cases c : a = i ∧ b = j
  · rw [if_pos c, hx, c.1, c.2]
  · rw [if_neg c]
theorem o_or0 (x : Int32) : x ||| 0 = x := by
  apply Int32.toBitVec_inj.mp
  simp
theorem r_self {Γ : Zg} {M : Zm} {m w : Nat} {P : Pk} (hm : z_r Γ m 0 = w) (h : o_R M w P) (ok : o_ok P) {i : Nat} (hi : i < pN P) {x : Int32} (hx : o_sec x) : ∃ M', X11_hearsItself Γ M m (nI i) x = some M' ∧ o_R M' w (o_self P i x) ∧ o_F (o_rS w) M M' := by
  have h8 := ok.1
  unfold X11_hearsItself o_self
  have hS : o_rS w w := rfl
  rw [o_atJ (x := 2) (j := 2) rfl, if_pos (z_ixn (by omega) (by decide)), if_pos (z_ixn (by omega) (by decide)), nI_cl (by omega), hm, h.2.2.2.2 i hi 2 (by decide), r_its (x := 1) hm h h8 hi (j := 1) rfl (by decide), Option.bind_some, if_pos (z_ixn (by omega) (by decide))]
  rcases hx with rfl | ⟨k, hk, rfl⟩
  · rw [if_neg (by decide), if_pos rfl]
    exact ⟨_, rfl, (h.v _ hi (by decide)).E (p_v_id P (o_or0 _)), o_F.i hS⟩
  · rw [if_pos (show (0 : Int32) ≤ nI k from nI_pos' (by omega)), if_neg (nI_nm1 k hk)]
    obtain ⟨-, ⟨q1, g1, e1⟩, -, -, -⟩ := ok.2.2.2.1 i hi
    have tb := t_bit q1 g1 k hk
    rw [← e1] at tb
    by_cases c : X10_holds (pV P i 1) (nI k) = 0
    · rw [if_pos c, tb.1 c]
      exact ⟨_, rfl, (h.v _ hi (by decide)).E (p_v_id P (o_or0 _)), o_F.i hS⟩
    · rw [if_neg c, tb.2 c]
      exact ⟨_, rfl, h.v _ hi (by decide), o_F.i hS⟩
/-! sitting on -/
def o_lv (P : Pk) (i : Nat) : Prop := o_st P i ≤ pV P i 4 + 1
def o_gone (P : Pk) (i : Nat) : Bool := decide (pV P i 3 ≠ -1 ∧ o_st P i ≤ pV P i 4 + 1)
def o_sitv (P : Pk) (i j : Nat) : Int32 := if pV P i 3 = -1 then pV P i j else if o_st P i ≤ pV P i 4 + 1 then (if j = 3 then -1 else if j = 4 then 0 else pV P i j) else (if j = 4 then pV P i 4 + 1 else pV P i j)
def o_sitk (P : Pk) (k : Nat) : Pk := (pN P, pH P, pS P, pL P, fun i j => if i < k then o_sitv P i j else pV P i j)
def o_sit (P : Pk) : Pk := (pN P, pH P, pS P, pL P, o_sitv P)
def o_sit1 (P : Pk) (i : Nat) : Pk := if o_st P i ≤ pV P i 4 + 1 then p_v (p_v (p_v P i 4 (pV P i 4 + 1)) i 3 (-1)) i 4 0 else p_v P i 4 (pV P i 4 + 1)
theorem o_sit1_v {P : Pk} {i : Nat} (hs : pV P i 3 ≠ -1) (a b : Nat) : pV (o_sit1 P i) a b = if a = i then o_sitv P i b else pV P a b := by
  unfold o_sit1 o_sitv
  rw [if_neg hs]
  by_cases c : o_st P i ≤ pV P i 4 + 1
  · rw [if_pos c, if_pos c]
    simp only [pV_v]
    by_cases e : a = i
    · subst e
      by_cases b4 : b = 4
      · subst b4; simp
      · by_cases b3 : b = 3
        · subst b3; simp
        · simp [b3, b4]
    · simp [e]
  · rw [if_neg c, if_neg c]
    simp only [pV_v]
    by_cases e : a = i
    · subst e
      by_cases b4 : b = 4
      · subst b4; simp
      · simp [b4]
    · simp [e]
theorem o_sit1_E (P : Pk) (i : Nat) : pN (o_sit1 P i) = pN P ∧ pH (o_sit1 P i) = pH P ∧ pS (o_sit1 P i) = pS P ∧ pL (o_sit1 P i) = pL P := by
  unfold o_sit1; split <;> exact ⟨rfl, rfl, rfl, rfl⟩
theorem c_sitOn {Γ : Zg} {M : Zm} {a : Nat} {P : Pk} (hP : g_P Γ a) (h : o_C M a P) (ok : o_ok P) {i : Nat} (hi : i < pN P) : ∃ M', X3_sitOn Γ M a (nI i) = some ((if o_st P i ≤ pV P i 4 + 1 then (1 : Int32) <<< (nI i &&& 31) else 0), M') ∧ o_C M' a (o_sit1 P i) ∧ o_F (o_cS a) M M' := by
  have h8 := ok.1
  have hS : o_cS a (a + 2 + i) := ⟨by omega, by omega⟩
  have hne : ¬ nI i = -1 := by
    have : ∀ i, i < 8 → ¬ nI i = -1 := by decide
    exact this i (by omega)
  unfold X3_sitOn o_sit1
  rw [if_neg hne, if_pos (z_ixn (by omega) (by decide)), nI_cl (by omega), hP.1 i (by omega), h.2.2.2.2 i hi 4 (by decide)]
  have hA := h.v (pV P i 4 + 1) hi (j := 4) (by decide)
  have okA : o_ok (p_v P i 4 (pV P i 4 + 1)) := ok.v (Or.inr (Or.inr (Or.inl rfl)))
  have est : o_st (p_v P i 4 (pV P i 4 + 1)) i = o_st P i := by
    unfold o_st
    rw [pV_v, if_neg (by omega), pV_v, if_neg (by omega)]
  have e4 : (z_i M (a + 2 + i) 4 (pV P i 4 + 1)).1 (a + 2 + i) 4 = pV P i 4 + 1 := by rw [z_i_rd, if_pos ⟨rfl, rfl⟩]
  have hst : X3_stayOf Γ (z_i M (a + 2 + i) 4 (pV P i 4 + 1)) a (nI i) = some (o_st P i) := by rw [c_st hP hA okA hi, est]
  show ∃ M', ((X3_stayOf Γ (z_i M (a + 2 + i) 4 (pV P i 4 + 1)) a (nI i)).bind _) = some (_, M') ∧ _
  rw [hst, Option.bind_some, e4]
  by_cases c : o_st P i ≤ pV P i 4 + 1
  · rw [if_pos c, if_pos c, if_pos c]
    refine ⟨_, rfl, (hA.v (-1) hi (j := 3) (by decide)).v 0 hi (j := 4) (by decide), ((o_F.i hS).tr (o_F.i hS)).tr (o_F.i hS)⟩
  · rw [if_neg c, if_neg c, if_neg c]
    exact ⟨_, rfl, hA, o_F.i hS⟩
/-- who went, as a set -/
def o_G (x : Int32) (g : Nat → Bool) : Prop := ∃ q, q < 256 ∧ x = nI q ∧ ∀ p, p < 8 → q.testBit p = g p
theorem o_G0 : o_G 0 (fun _ => false) := ⟨0, by decide, rfl, fun p _ => by simp⟩
theorem o_bit8 : ∀ k, k < 8 → (1 : Int32) <<< (nI k &&& 31) = nI (2 ^ k) ∧ 2 ^ k < 256 := by decide +kernel
theorem o_G.add {x : Int32} {g : Nat → Bool} (h : o_G x g) {k : Nat} (hk : k < 8) : o_G (x ||| ((1 : Int32) <<< (nI k &&& 31))) (fun i => g i || decide (i = k)) := by
  obtain ⟨q, hq, rfl, ht⟩ := h
  refine ⟨q ||| 2 ^ k, Nat.or_lt_two_pow (n := 8) hq (o_bit8 k hk).2, by rw [(o_bit8 k hk).1, o_orI], fun p hp => ?_⟩
  rw [Nat.testBit_or, ht p hp, Nat.testBit_two_pow]
  by_cases e : p = k
  · subst e; simp
  · simp [e, Ne.symm e]
theorem o_G.cong {x : Int32} {g g' : Nat → Bool} (h : o_G x g) (e : ∀ p, p < 8 → g p = g' p) : o_G x g' := by
  obtain ⟨q, hq, rfl, ht⟩ := h
  exact ⟨q, hq, rfl, fun p hp => (ht p hp).trans (e p hp)⟩
theorem t_holds8 : ∀ q, q < 256 → ∀ p, p < 8 → X10_holds (nI q) (nI p) = (if q.testBit p = true then 1 else 0) := by decide +kernel
theorem o_G.holds {x : Int32} {g : Nat → Bool} (h : o_G x g) {p : Nat} (hp : p < 8) : (X10_holds x (nI p) = 0 ↔ g p = false) := by
  obtain ⟨q, hq, rfl, ht⟩ := h
  rw [t_holds8 q hq p hp, ← ht p hp]
  cases q.testBit p <;> simp
theorem o_holds0 (x y : Int32) : X10_holds x y = 0 ↔ (x >>> (y &&& 31)) &&& 1 = 0 := by
  unfold X10_holds
  by_cases c : (x >>> (y &&& 31)) &&& 1 = 0
  · simp [c]
  · simp [c]
