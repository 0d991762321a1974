/-! one hears -/
theorem o_orI (a b : Nat) : nI a ||| nI b = nI (a ||| b) := by
  apply Int32.toBitVec_inj.1
  show BitVec.ofNat 32 a ||| BitVec.ofNat 32 b = BitVec.ofNat 32 (a ||| b)
  apply BitVec.eq_of_getLsbD_eq
  intro i hi
  simp [hi]
theorem o_xorI (a b : Nat) : nI a ^^^ nI b = nI (a ^^^ b) := by
  apply Int32.toBitVec_inj.1
  show BitVec.ofNat 32 a ^^^ BitVec.ofNat 32 b = BitVec.ofNat 32 (a ^^^ b)
  apply BitVec.eq_of_getLsbD_eq
  intro i hi
  simp [hi]
theorem o_andI (a b : Nat) : nI a &&& nI b = nI (a &&& b) := by
  apply Int32.toBitVec_inj.1
  show BitVec.ofNat 32 a &&& BitVec.ofNat 32 b = BitVec.ofNat 32 (a &&& b)
  apply BitVec.eq_of_getLsbD_eq
  intro i hi
  simp [hi]
theorem o_of32 (x : Int32) : x = nI x.toBitVec.toNat := Int32.toBitVec_inj.mp (by show _ = BitVec.ofNat 32 _; simp)
theorem o_or_lt {a b : Nat} (ha : a < 1024) (hb : b < 1024) : a ||| b < 1024 := Nat.or_lt_two_pow (n := 10) ha hb
theorem o_andle {a : Nat} (ha : a < 2 ^ 31) (y : Int32) : ∃ q, q ≤ a ∧ nI a &&& y = nI q := by
  refine ⟨(nI a &&& y).toBitVec.toNat, ?_, ?_⟩
  · rw [Int32.toBitVec_and, BitVec.toNat_and, pk_tn (by omega)]
    exact Nat.and_le_left
  · exact o_of32 _
theorem o_bit : ∀ k, k < 10 → (1 : Int32) <<< (nI k &&& 31) = nI (2 ^ k) := by decide +kernel
theorem o_bitlt : ∀ k, k < 10 → 2 ^ k < 1024 := by decide
theorem t_bit : ∀ q, q < 1024 → ∀ k, k < 10 → (X10_holds (nI q) (nI k) = 0 → nI q &&& ((1 : Int32) <<< (nI k &&& 31)) = 0) ∧ (¬ X10_holds (nI q) (nI k) = 0 → nI q &&& ((1 : Int32) <<< (nI k &&& 31)) = (1 : Int32) <<< (nI k &&& 31)) := by decide +kernel
def o_E (P Q : Pk) : Prop := pN P = pN Q ∧ pH P = pH Q ∧ pS P = pS Q ∧ pL P = pL Q ∧ ∀ i, i < pN P → ∀ j, j < 6 → pV P i j = pV Q i j
theorem o_E.rf {P : Pk} : o_E P P := ⟨rfl, rfl, rfl, rfl, fun _ _ _ _ => rfl⟩
theorem o_E.sy {P Q : Pk} (h : o_E P Q) : o_E Q P := ⟨h.1.symm, h.2.1.symm, h.2.2.1.symm, h.2.2.2.1.symm, fun i hi j hj => (h.2.2.2.2 i (by rw [h.1]; exact hi) j hj).symm⟩
theorem o_C.E {M : Zm} {a : Nat} {P Q : Pk} (h : o_C M a P) (e : o_E P Q) : o_C M a Q := by
  obtain ⟨e1, e2, e3, e4, e5⟩ := e
  obtain ⟨h1, h2, h3, h4, h5⟩ := h
  exact ⟨by rw [← e1]; exact h1, by rw [← e3]; exact h2, by rw [← e2]; exact h3, by rw [← e4]; exact h4, fun i hi j hj => by rw [← e5 i (by omega) j hj]; exact h5 i (by omega) j hj⟩
theorem o_R.E {M : Zm} {a : Nat} {P Q : Pk} (h : o_R M a P) (e : o_E P Q) : o_R M a Q := by
  obtain ⟨e1, e2, e3, e4, e5⟩ := e
  obtain ⟨h1, h2, h3, h4, h5⟩ := h
  exact ⟨by rw [← e1]; exact h1, by rw [← e3]; exact h2, by rw [← e2]; exact h3, by rw [← e4]; exact h4, fun i hi j hj => by rw [← e5 i (by omega) j hj]; exact h5 i (by omega) j hj⟩
theorem o_ok.E {P Q : Pk} (h : o_ok P) (e : o_E P Q) : o_ok Q := by
  obtain ⟨e1, e2, e3, e4, e5⟩ := e
  obtain ⟨h1, h2, h3, h4, h5⟩ := h
  unfold o_ok
  rw [← e1, ← e3, ← e4]
  refine ⟨h1, h2, h3, fun i hi => ?_, fun i j hi hj => ?_⟩
  · rw [← e5 i hi 0 (by decide), ← e5 i hi 1 (by decide), ← e5 i hi 2 (by decide), ← e5 i hi 3 (by decide), ← e5 i hi 5 (by decide)]
    exact h4 i hi
  · rw [← e5 i hi 3 (by decide), ← e5 j hj 3 (by decide)]
    exact h5 i j hi hj
/-- one's fields 1, 2, 4, 5 change: it stays right -/
theorem o_ok.v {P : Pk} (h : o_ok P) {i j : Nat} {x : Int32} (hj : (j = 1 ∧ ∃ q, q < 1024 ∧ x = nI q) ∨ (j = 2 ∧ ∃ q, q < 1024 ∧ x = nI q) ∨ j = 4 ∨ (j = 5 ∧ ∃ q, q ≤ 9999 ∧ x = nI q) ∨ (j = 0 ∧ ∃ q, q < 6 ∧ x = nI q)) : o_ok (p_v P i j x) := by
  obtain ⟨h1, h2, h3, h4, h5⟩ := h
  have h3' : ∀ a, pV (p_v P i j x) a 3 = pV P a 3 := fun a => by rw [pV_v, if_neg (by omega)]
  refine ⟨h1, h2, h3, fun a ha => ?_, fun a b ha hb => ?_⟩
  · obtain ⟨g0, g1, g2, g3, g5⟩ := h4 a ha
    refine ⟨?_, ?_, ?_, by rw [h3' a]; exact g3, ?_⟩
    · rw [pV_v]
      split
      · rcases hj with ⟨e, q⟩ | ⟨e, q⟩ | e | ⟨e, q⟩ | ⟨e, q⟩
        · omega
        · omega
        · omega
        · omega
        · exact q
      · exact g0
    · rw [pV_v]
      split
      · rcases hj with ⟨e, q⟩ | ⟨e, q⟩ | e | ⟨e, q⟩ | ⟨e, q⟩
        · exact q
        · omega
        · omega
        · omega
        · omega
      · exact g1
    · rw [pV_v]
      split
      · rcases hj with ⟨e, q⟩ | ⟨e, q⟩ | e | ⟨e, q⟩ | ⟨e, q⟩
        · omega
        · exact q
        · omega
        · omega
        · omega
      · exact g2
    · rw [pV_v]
      split
      · rcases hj with ⟨e, q⟩ | ⟨e, q⟩ | e | ⟨e, q⟩ | ⟨e, q⟩
        · omega
        · omega
        · omega
        · exact q
        · omega
      · exact g5
  · rw [h3' a, h3' b]
    exact h5 a b ha hb
def o_nh (x : Int32) : Int32 := if 9999 ≤ x then 9999 else x + 1
theorem o_nh_c {x : Int32} (h : ∃ q, q ≤ 9999 ∧ x = nI q) : (if (9999 : Int32) < x + 1 then (9999 : Int32) else x + 1) = o_nh x := by
  obtain ⟨q, hq, rfl⟩ := h
  unfold o_nh
  rw [nI_s]
  show (if nI 9999 < nI (q + 1) then nI 9999 else nI (q + 1)) = if nI 9999 ≤ nI q then nI 9999 else nI (q + 1)
  by_cases c : q = 9999
  · rw [if_pos (nI_lt (by omega) (by omega)), if_pos (nI_le (by omega) (by omega))]
  · rw [if_neg (nI_nlt (by omega) (by omega)), if_neg (nI_ge (by omega) (by omega))]
theorem o_nh_ok {x : Int32} (h : ∃ q, q ≤ 9999 ∧ x = nI q) : ∃ q, q ≤ 9999 ∧ o_nh x = nI q := by
  obtain ⟨q, hq, rfl⟩ := h
  show ∃ q_1, q_1 ≤ 9999 ∧ (if nI 9999 ≤ nI q then nI 9999 else nI q + 1) = nI q_1
  by_cases c : q = 9999
  · rw [if_pos (show nI 9999 ≤ nI q from nI_le (by omega) (by omega))]
    exact ⟨9999, by omega, rfl⟩
  · rw [if_neg (show ¬ nI 9999 ≤ nI q from nI_ge (by omega) (by omega)), nI_s]
    exact ⟨q + 1, by omega, rfl⟩
def o_hear (P : Pk) (i : Nat) (x : Int32) : Pk := if x = -1 then P else p_v (p_v (p_v P i 1 (pV P i 1 ||| ((1 : Int32) <<< (x &&& 31)))) i 2 (if o_tr P i x = 0 then pV P i 2 &&& (((1 : Int32) <<< (x &&& 31)) ^^^ (-1)) else pV P i 2 ||| ((1 : Int32) <<< (x &&& 31)))) i 5 (o_nh (pV P i 5))
def o_self (P : Pk) (i : Nat) (x : Int32) : Pk := if x = -1 then P else if X10_holds (pV P i 1) x = 0 then P else p_v P i 2 (pV P i 2 ||| ((1 : Int32) <<< (x &&& 31)))
theorem o_hear_ok {P : Pk} (ok : o_ok P) {i : Nat} (hi : i < pN P) {x : Int32} (hx : x = -1 ∨ ∃ k, k < 10 ∧ x = nI k) : o_ok (o_hear P i x) := by
  unfold o_hear
  rcases hx with rfl | ⟨k, hk, rfl⟩
  · exact ok
  · rw [if_neg (by intro e; exact absurd e (by have : ∀ k, k < 10 → ¬ nI k = -1 := by decide
                                               exact this k hk))]
    obtain ⟨-, ⟨q1, g1, e1⟩, ⟨q2, g2, e2⟩, -, h5⟩ := ok.2.2.2.1 i hi
    rw [o_bit k hk]
    refine o_ok.v (o_ok.v (o_ok.v ok ?_) ?_) ?_
    · refine Or.inl ⟨rfl, q1 ||| 2 ^ k, o_or_lt g1 (o_bitlt k hk), ?_⟩
      rw [e1, o_orI]
    · refine Or.inr (Or.inl ⟨rfl, ?_⟩)
      split
      · obtain ⟨q, hq, e⟩ := o_andle (a := q2) (by omega) (nI (2 ^ k) ^^^ -1)
        exact ⟨q, by omega, by rw [e2, e]⟩
      · exact ⟨q2 ||| 2 ^ k, o_or_lt g2 (o_bitlt k hk), by rw [e2, o_orI]⟩
    · exact Or.inr (Or.inr (Or.inr (Or.inl ⟨rfl, o_nh_ok h5⟩)))
theorem o_self_ok {P : Pk} (ok : o_ok P) {i : Nat} (hi : i < pN P) {x : Int32} (hx : x = -1 ∨ ∃ k, k < 10 ∧ x = nI k) : o_ok (o_self P i x) := by
  unfold o_self
  rcases hx with rfl | ⟨k, hk, rfl⟩
  · exact ok
  · split
    · exact ok
    · split
      · exact ok
      · obtain ⟨-, -, ⟨q2, g2, e2⟩, -, -⟩ := ok.2.2.2.1 i hi
        rw [o_bit k hk]
        exact o_ok.v ok (Or.inr (Or.inl ⟨rfl, q2 ||| 2 ^ k, o_or_lt g2 (o_bitlt k hk), by rw [e2, o_orI]⟩))
theorem o_hear_E (P : Pk) (i : Nat) (x : Int32) : pN (o_hear P i x) = pN P ∧ pH (o_hear P i x) = pH P ∧ pS (o_hear P i x) = pS P ∧ pL (o_hear P i x) = pL P := by
  unfold o_hear; split <;> exact ⟨rfl, rfl, rfl, rfl⟩
theorem o_self_E (P : Pk) (i : Nat) (x : Int32) : pN (o_self P i x) = pN P ∧ pH (o_self P i x) = pH P ∧ pS (o_self P i x) = pS P ∧ pL (o_self P i x) = pL P := by
  unfold o_self; split
  · exact ⟨rfl, rfl, rfl, rfl⟩
  · split <;> exact ⟨rfl, rfl, rfl, rfl⟩
/-- what a secret said can be -/
def o_sec (x : Int32) : Prop := x = -1 ∨ ∃ k, k < 10 ∧ x = nI k
theorem o_say_sec {P : Pk} (ok : o_ok P) {i : Nat} (hi : i < pN P) : o_sec (o_say P i) := by
  obtain ⟨-, ⟨qs, gs, es⟩, -, hv, -⟩ := ok
  obtain ⟨-, ⟨q1, g1, e1⟩, ⟨q2, g2, e2⟩, -, -⟩ := hv i hi
  have a1 : o_sec (o_pl (pV P i 1) (pV P i 2)) := by
    unfold o_pl o_sec
    split
    · rw [e1]; exact t_leastR q1 g1
    · rw [e2]; exact t_leastR q2 g2
  have a2 : o_sec (o_great (pV P i 1)) := by rw [e1]; exact t_greatR q1 g1
  have a3 : o_sec (o_least (pS P)) := by rw [es]; exact t_leastR qs gs
  unfold o_say o_sayk
  repeat' split
  all_goals first | assumption | exact Or.inl rfl
theorem nI_nm1 : ∀ k, k < 10 → ¬ nI k = -1 := by decide
theorem c_bring {Γ : Zg} {M : Zm} {a : Nat} {P : Pk} (hP : g_P Γ a) (h : o_C M a P) (ok : o_ok P) {i : Nat} (hi : i < pN P) {own oth : Int32} : ∃ M', X3_bring Γ M a (nI i) own oth = some M' ∧ o_C M' a (if (pH P / 24) - (pH P / 24) / 7 * 7 = 0 then o_self P i own else o_hear P i oth) ∧ o_F (o_cS a) M M' := by
  have h8 := ok.1
  unfold X3_bring
  rw [if_pos (z_ixn (by omega) (by decide))]
  have em : X3_isMonday M a = if (pH P / 24) - (pH P / 24) / 7 * 7 = 0 then 1 else 0 := by unfold X3_isMonday; rw [h.2.2.1]
  rw [em]
  have hS : o_cS a (a + 2 + i) := ⟨by omega, by omega⟩
  rw [nI_cl (by omega), hP.1 i (by omega)]
  by_cases c : (pH P / 24) - (pH P / 24) / 7 * 7 = 0
  · rw [if_pos c, if_pos c, if_neg (by decide)]
    unfold o_self
    by_cases c2 : own = -1
    · rw [if_pos c2, if_pos c2]
      exact ⟨M, rfl, h, o_F.rf⟩
    · rw [if_neg c2, if_neg c2]
      unfold X8_hearItself
      rw [h.2.2.2.2 i hi 1 (by decide), h.2.2.2.2 i hi 2 (by decide)]
      by_cases c3 : X10_holds (pV P i 1) own = 0
      · rw [if_pos c3, if_pos c3]
        exact ⟨M, rfl, h, o_F.rf⟩
      · rw [if_neg c3, if_neg c3]
        exact ⟨_, rfl, h.v _ hi (by decide), o_F.i hS⟩
  · rw [if_neg c, if_neg c, if_pos rfl]
    unfold o_hear
    by_cases c2 : oth = -1
    · rw [if_pos c2, if_pos c2]
      exact ⟨M, rfl, h, o_F.rf⟩
    · rw [if_neg c2, if_neg c2, c_tr hP h ok hi oth]
      have hh := (ok.2.2.2.1 i hi).2.2.2.2
      have hA := h.v (pV P i 1 ||| ((1 : Int32) <<< (oth &&& 31))) hi (j := 1) (by decide)
      have e2 := hA.2.2.2.2 i hi 2 (by decide)
      rw [pV_v, if_neg (by omega)] at e2
      have key : ∀ y : Int32, ∃ M', X8_hear_P36 (z_i M (a + 2 + i) 1 (pV P i 1 ||| ((1 : Int32) <<< (oth &&& 31)))) (a + 2 + i) (a + 2 + i) y = M' ∧ o_C M' a (p_v (p_v (p_v P i 1 (pV P i 1 ||| ((1 : Int32) <<< (oth &&& 31)))) i 2 y) i 5 (o_nh (pV P i 5))) ∧ o_F (o_cS a) M M' := by
        intro y
        have hB := hA.v y (i := i) hi (j := 2) (by decide)
        have e5 := hB.2.2.2.2 i hi 5 (by decide)
        rw [pV_v, if_neg (by omega), pV_v, if_neg (by omega)] at e5
        refine ⟨_, rfl, ?_, ?_⟩
        · show o_C (z_i _ (a + 2 + i) 5 _) a _
          rw [e5, o_nh_c hh]
          exact hB.v _ hi (by decide)
        · exact ((o_F.i hS).tr (o_F.i hS)).tr (o_F.i hS)
      rw [Option.bind_some]
      unfold X8_hear
      rw [h.2.2.2.2 i hi 1 (by decide)]
      show ∃ M', some (if o_tr P i oth = 0 then _ else _) = some M' ∧ _
      rw [e2]
      by_cases c3 : o_tr P i oth = 0
      · rw [if_pos c3, if_pos c3]
        obtain ⟨M', e, k1, k2⟩ := key (pV P i 2 &&& (((1 : Int32) <<< (oth &&& 31)) ^^^ (-1)))
        exact ⟨M', congrArg some e, k1, k2⟩
      · rw [if_neg c3, if_neg c3]
        obtain ⟨M', e, k1, k2⟩ := key (pV P i 2 ||| ((1 : Int32) <<< (oth &&& 31)))
        exact ⟨M', congrArg some e, k1, k2⟩
