/-! one hour, and n of them -/
theorem z_bps {α β γ : Type} (a : α) (b : β) (f : α → β → Option γ) : z_bp (some (a, b)) f = f a b := rfl
theorem z_lts {α β : Type} (x : α) (f : α → β) : z_lt x f = f x := rfl
theorem z_lps {α β γ : Type} (a : α) (b : β) (f : α → β → γ) : z_lp (a, b) f = f a b := rfl
def o_p1 (P : Pk) : Pk := match o_hd P 0, o_hd P 1 with
  | some a, some b => if (pH P / 24) - (pH P / 24) / 7 * 7 = 0 then o_self (o_self P a (o_say P a)) b (o_say P b) else o_hear (o_hear P a (o_say P b)) b (o_say P a)
  | _, _ => P
def o_gn (Q : Pk) : Nat → Bool := fun i => decide (i < pN Q) && o_gone Q i
def o_tl (Q : Pk) : Pk := p_h (o_fill (o_fill (o_sit Q) 0 (o_gn Q)) 1 (o_gn Q)) (pH Q + 1)
def o_hr (P : Pk) : Pk := o_tl (o_p1 P)
theorem o_hd_cong {P Q : Pk} (hn : pN Q = pN P) (h : ∀ i, pV Q i 3 = pV P i 3) (s : Int32) : o_hd Q s = o_hd P s := by
  unfold o_hd
  rw [hn]
  congr 1
  funext i
  rw [h i]
theorem o_hear_3 (P : Pk) (i : Nat) (x : Int32) (a : Nat) : pV (o_hear P i x) a 3 = pV P a 3 := by
  unfold o_hear
  split
  · rfl
  · simp [pV_v]
theorem o_self_3 (P : Pk) (i : Nat) (x : Int32) (a : Nat) : pV (o_self P i x) a 3 = pV P a 3 := by
  unfold o_self
  split
  · rfl
  · split
    · rfl
    · simp [pV_v]
theorem o_p1_E {P : Pk} (ok : o_ok P) : o_ok (o_p1 P) ∧ pN (o_p1 P) = pN P ∧ pH (o_p1 P) = pH P ∧ pS (o_p1 P) = pS P ∧ (∀ i, pV (o_p1 P) i 3 = pV P i 3) := by
  unfold o_p1
  cases h0 : o_hd P 0 with
  | none => exact ⟨ok, rfl, rfl, rfl, fun _ => rfl⟩
  | some a =>
    cases h1 : o_hd P 1 with
    | none => exact ⟨ok, rfl, rfl, rfl, fun _ => rfl⟩
    | some b =>
      have ha := (o_hd_some h0).1
      have hb := (o_hd_some h1).1
      have sa := o_say_sec ok ha
      have sb := o_say_sec ok hb
      dsimp only
      by_cases c : (pH P / 24) - (pH P / 24) / 7 * 7 = 0
      · rw [if_pos c]
        have k1 := o_self_ok ok ha sa
        obtain ⟨e1, e2, e3, -⟩ := o_self_E P a (o_say P a)
        obtain ⟨g1, g2, g3, -⟩ := o_self_E (o_self P a (o_say P a)) b (o_say P b)
        exact ⟨o_self_ok k1 (by rw [e1]; exact hb) sb, g1.trans e1, g2.trans e2, g3.trans e3, fun i => by rw [o_self_3, o_self_3]⟩
      · rw [if_neg c]
        have k1 := o_hear_ok ok ha sb
        obtain ⟨e1, e2, e3, -⟩ := o_hear_E P a (o_say P b)
        obtain ⟨g1, g2, g3, -⟩ := o_hear_E (o_hear P a (o_say P b)) b (o_say P a)
        exact ⟨o_hear_ok k1 (by rw [e1]; exact hb) sa, g1.trans e1, g2.trans e2, g3.trans e3, fun i => by rw [o_hear_3, o_hear_3]⟩
theorem o_fill_H (Q : Pk) (s : Int32) (g : Nat → Bool) : pN (o_fill Q s g) = pN Q ∧ pH (o_fill Q s g) = pH Q ∧ pS (o_fill Q s g) = pS Q := by
  unfold o_fill
  split
  · cases o_nx Q g <;> exact ⟨rfl, rfl, rfl⟩
  · exact ⟨rfl, rfl, rfl⟩
theorem o_ok.h {P : Pk} (ok : o_ok P) (x : Int32) : o_ok (p_h P x) := ok
theorem o_tl_ok {Q : Pk} (ok : o_ok Q) : o_ok (o_tl Q) := (o_fill_ok (o_fill_ok (o_sit_ok ok) (Or.inl rfl) _) (Or.inr rfl) _).h _
theorem o_hr_ok {P : Pk} (ok : o_ok P) : o_ok (o_hr P) := o_tl_ok (o_p1_E ok).1
theorem o_hr_E {P : Pk} (ok : o_ok P) : pN (o_hr P) = pN P ∧ pH (o_hr P) = pH P + 1 ∧ pS (o_hr P) = pS P := by
  obtain ⟨-, e1, e2, e3, -⟩ := o_p1_E ok
  have f1 := o_fill_H (o_sit (o_p1 P)) 0 (o_gn (o_p1 P))
  have f2 := o_fill_H (o_fill (o_sit (o_p1 P)) 0 (o_gn (o_p1 P))) 1 (o_gn (o_p1 P))
  refine ⟨?_, ?_, ?_⟩
  · show pN (o_fill _ _ _) = _
    rw [f2.1, f1.1]; exact e1
  · show pH (o_p1 P) + 1 = _
    rw [e2]
  · show pS (o_fill _ _ _) = _
    rw [f2.2.2, f1.2.2]; exact e3
theorem c_tail {Γ : Zg} {M : Zm} {a : Nat} {Q : Pk} (hP : g_P Γ a) (h : o_C M a Q) (ok : o_ok Q) (K : Zm → Option Zm) : ∃ M', z_bp (X3_sitOn Γ M a (o_oI (o_hd Q 0))) (fun r7 M8 => z_bp (X3_sitOn Γ M8 a (o_oI (o_hd Q 1))) (fun r10 M11 => (X3_fill Γ M11 a 0 (r7 ||| r10)).bind (fun M14 => (X3_fill Γ M14 a 1 (r7 ||| r10)).bind (fun M17 => z_lt (z_i M17 a 4 ((M17.1 a 4) + 1)) K)))) = K M' ∧ o_C M' a (o_tl Q) ∧ o_F (o_cS a) M M' := by
  have hx : ∀ i, o_hd Q 0 = some i → i < pN Q := fun i e => (o_hd_some e).1
  have hy : ∀ i, o_hd Q 1 = some i → i < pN (o_sq Q (o_hd Q 0)) := fun i e => by rw [(o_sq_E Q _).1]; exact (o_hd_some e).1
  obtain ⟨M1, e1, h1, f1⟩ := c_sq hP h ok hx
  have okq : o_ok (o_sq Q (o_hd Q 0)) := by
    cases hh : o_hd Q 0 with
    | none => exact ok
    | some i =>
      have hi := o_hd_some hh
      show o_ok (o_sit1 Q i)
      have ok4 : o_ok (p_v Q i 4 (pV Q i 4 + 1)) := ok.v (Or.inr (Or.inr (Or.inl rfl)))
      unfold o_sit1
      split
      · obtain ⟨a1, a2, a3, a4, a5⟩ := ok
        have hv3 : ∀ k, pV (p_v (p_v (p_v Q i 4 (pV Q i 4 + 1)) i 3 (-1)) i 4 0) k 3 = if k = i then -1 else pV Q k 3 := fun k => by simp only [pV_v]; simp
        refine ⟨a1, a2, a3, fun k hk => ?_, fun k j hk hj e3 hne => ?_⟩
        · obtain ⟨g0, g1, g2, g3, g5⟩ := a4 k hk
          refine ⟨by simpa [pV_v] using g0, by simpa [pV_v] using g1, by simpa [pV_v] using g2, ?_, by simpa [pV_v] using g5⟩
          rw [hv3]
          split
          · exact Or.inl rfl
          · exact g3
        · rw [hv3, hv3] at e3
          rw [hv3] at hne
          by_cases c1 : k = i
          · rw [if_pos c1] at hne; exact absurd rfl hne
          · rw [if_neg c1] at e3 hne
            by_cases c2 : j = i
            · rw [if_pos c2] at e3; exact absurd e3 hne
            · rw [if_neg c2] at e3
              exact a5 k j hk hj e3 hne
      · exact ok4
  obtain ⟨M2, e2, h2, f2⟩ := c_sq hP h1 okq hy
  have h3 := h2.E (o_sit2 ok).1
  have hg := o_gone2 ok
  obtain ⟨M3, e3, h4, f3⟩ := c_fill hP h3 (o_sit_ok ok) (Or.inl rfl) hg
  obtain ⟨M4, e4, h5, f4⟩ := c_fill hP h4 (o_fill_ok (o_sit_ok ok) (Or.inl rfl) _) (Or.inr rfl) hg
  refine ⟨z_i M4 a 4 (M4.1 a 4 + 1), ?_, ?_, (((f1.tr f2).tr f3).tr f4).tr (o_F.i ⟨by omega, by omega⟩)⟩
  · rw [e1, z_bps, e2, z_bps, e3, Option.bind_some]
    rw [e4, Option.bind_some]
    rfl
  · have eh := h5.2.2.1
    rw [(o_fill_H _ _ _).2.1, (o_fill_H _ _ _).2.1] at eh
    rw [eh]
    exact h5.h _
theorem c_hour {Γ : Zg} {M : Zm} {a : Nat} {P : Pk} (hP : g_P Γ a) (h : o_C M a P) (ok : o_ok P) {n i : Int32} (hni : ¬ n ≤ i) (f : Nat) : ∃ M', X3_letHoursGo_P2 Γ (f + 1) M a n i = X3_letHoursGo_P2 Γ f M' a n (i + 1) ∧ o_C M' a (o_hr P) ∧ o_F (o_cS a) M M' := by
  have h8 := ok.1
  rw [X3_letHoursGo_P2, if_neg hni, c_hold hP h ok (s := 0) (by decide), Option.bind_some, c_hold hP h ok (s := 1) (by decide), Option.bind_some]
  have hx : ∀ i, o_hd P 0 = some i → i < pN P := fun i e => (o_hd_some e).1
  have hy : ∀ i, o_hd P 1 = some i → i < pN P := fun i e => (o_hd_some e).1
  by_cases c0 : o_hd P 0 = none
  · rw [if_pos ((o_oI_neg h8 hx).2.2.mpr c0)]
    have e : o_p1 P = P := by unfold o_p1; rw [c0]
    unfold o_hr
    rw [e]
    exact c_tail hP h ok _
  · rw [if_neg (fun e => c0 ((o_oI_neg h8 hx).2.2.mp e))]
    by_cases c1 : o_hd P 1 = none
    · rw [if_pos ((o_oI_neg h8 hy).2.2.mpr c1)]
      have e : o_p1 P = P := by
        unfold o_p1; rw [c1]
        cases o_hd P 0 <;> rfl
      unfold o_hr
      rw [e]
      exact c_tail hP h ok _
    · rw [if_neg (fun e => c1 ((o_oI_neg h8 hy).2.2.mp e))]
      obtain ⟨x, ex⟩ := Option.ne_none_iff_exists'.mp c0
      obtain ⟨y, ey⟩ := Option.ne_none_iff_exists'.mp c1
      have hxn := hx x ex
      have hyn := hy y ey
      rw [ex, ey]
      show ∃ M', ((X3_saidBy Γ M a (nI x)).bind _) = _ ∧ _
      rw [c_say hP h ok hxn, Option.bind_some]
      show ∃ M', ((X3_saidBy Γ M a (nI y)).bind _) = _ ∧ _
      rw [c_say hP h ok hyn, Option.bind_some]
      obtain ⟨M1, e1, h1, f1⟩ := c_bring hP h ok hxn (own := o_say P x) (oth := o_say P y)
      have okA : o_ok (if (pH P / 24) - (pH P / 24) / 7 * 7 = 0 then o_self P x (o_say P x) else o_hear P x (o_say P y)) ∧ pN (if (pH P / 24) - (pH P / 24) / 7 * 7 = 0 then o_self P x (o_say P x) else o_hear P x (o_say P y)) = pN P ∧ pH (if (pH P / 24) - (pH P / 24) / 7 * 7 = 0 then o_self P x (o_say P x) else o_hear P x (o_say P y)) = pH P := by
        split
        · exact ⟨o_self_ok ok hxn (o_say_sec ok hxn), (o_self_E _ _ _).1, (o_self_E _ _ _).2.1⟩
        · exact ⟨o_hear_ok ok hxn (o_say_sec ok hyn), (o_hear_E _ _ _).1, (o_hear_E _ _ _).2.1⟩
      obtain ⟨M2, e2, h2, f2⟩ := c_bring hP h1 okA.1 (i := y) (by rw [okA.2.1]; exact hyn) (own := o_say P y) (oth := o_say P x)
      rw [okA.2.2] at h2
      have eQ : (if (pH P / 24) - (pH P / 24) / 7 * 7 = 0 then o_self (if (pH P / 24) - (pH P / 24) / 7 * 7 = 0 then o_self P x (o_say P x) else o_hear P x (o_say P y)) y (o_say P y) else o_hear (if (pH P / 24) - (pH P / 24) / 7 * 7 = 0 then o_self P x (o_say P x) else o_hear P x (o_say P y)) y (o_say P x)) = o_p1 P := by
        unfold o_p1
        rw [ex, ey]
        by_cases c : (pH P / 24) - (pH P / 24) / 7 * 7 = 0
        · simp only [c, if_true]
        · simp only [c, if_false]
      rw [eQ] at h2
      obtain ⟨okp, en, -, -, e3⟩ := o_p1_E ok
      have hd0 : o_hd (o_p1 P) 0 = some x := (o_hd_cong en e3 0).trans ex
      have hd1 : o_hd (o_p1 P) 1 = some y := (o_hd_cong en e3 1).trans ey
      obtain ⟨M3, e4, h3, f3⟩ := c_tail hP h2 okp (fun M58 => X3_letHoursGo_P2 Γ f M58 a n (i + 1))
      rw [hd0, hd1] at e4
      refine ⟨M3, ?_, h3, (f1.tr f2).tr f3⟩
      show ((X3_bring Γ M a (nI x) (o_say P x) (o_say P y)).bind _) = _
      rw [e1, Option.bind_some]
      show ((X3_bring Γ M1 a (nI y) (o_say P y) (o_say P x)).bind _) = _
      rw [e2, Option.bind_some]
      exact e4
def o_hrs : Nat → Pk → Pk
  | 0, P => P
  | n + 1, P => o_hrs n (o_hr P)
theorem o_hrs_ok : ∀ (n : Nat) {P : Pk}, o_ok P → o_ok (o_hrs n P) ∧ pN (o_hrs n P) = pN P ∧ pS (o_hrs n P) = pS P
  | 0, _, h => ⟨h, rfl, rfl⟩
  | n + 1, P, h => by
    have := o_hrs_ok n (o_hr_ok h)
    exact ⟨this.1, this.2.1.trans (o_hr_E h).1, this.2.2.trans (o_hr_E h).2.2⟩
theorem c_hours {Γ : Zg} {a : Nat} (hP : g_P Γ a) : ∀ (r f i : Nat) {M : Zm} {P : Pk}, o_C M a P → o_ok P → r < f → i + r < 1000 → ∃ M', X3_letHoursGo_P2 Γ f M a (nI (i + r)) (nI i) = some M' ∧ o_C M' a (o_hrs r P) ∧ o_F (o_cS a) M M'
  | 0, f + 1, i, M, P, h, ok, _, _ => by
    rw [X3_letHoursGo_P2, if_pos (nI_le (by omega) (by omega))]
    exact ⟨M, rfl, h, o_F.rf⟩
  | r + 1, f + 1, i, M, P, h, ok, hf, hb => by
    obtain ⟨M1, e1, h1, f1⟩ := c_hour hP h ok (n := nI (i + (r + 1))) (i := nI i) (nI_ge (by omega) (by omega)) f
    obtain ⟨M2, e2, h2, f2⟩ := c_hours hP r f (i + 1) h1 (o_hr_ok ok) (by omega) (by omega)
    refine ⟨M2, ?_, h2, f1.tr f2⟩
    rw [e1, nI_s, show i + (r + 1) = i + 1 + r by omega]
    exact e2
theorem c_go {Γ : Zg} {a : Nat} (hP : g_P Γ a) {n : Nat} (hn : n < 999) {M : Zm} {P : Pk} (h : o_C M a P) (ok : o_ok P) : ∃ M', X3_letHoursGo Γ M a (nI n) = some M' ∧ o_C M' a (o_hrs n P) ∧ o_F (o_cS a) M M' := by
  have := c_hours hP n 1000 0 h ok (by omega) (by omega)
  rw [Nat.zero_add] at this
  exact this
theorem r_on {Γ : Zg} {M : Zm} {m w : Nat} {P : Pk} (hm : z_r Γ m 0 = w) (h : o_R M w P) (ok : o_ok P) : ∃ M', X11_goesOn Γ M m = some M' ∧ o_R M' w (o_hr P) ∧ o_F (o_rS w) M M' := by
  have h8 := ok.1
  have hx : ∀ i, o_hd P 0 = some i → i < pN P := fun i e => (o_hd_some e).1
  have hy : ∀ i, o_hd P 1 = some i → i < pN P := fun i e => (o_hd_some e).1
  have tail : ∀ {M1 : Zm}, o_R M1 w (o_p1 P) → o_F (o_rS w) M M1 → ∃ M', X11_goesOn_P74 Γ 1000 M1 m 0 0 = some M' ∧ o_R M' w (o_hr P) ∧ o_F (o_rS w) M M' := by
    intro M1 h1 f1
    have okp := (o_p1_E ok).1
    refine r_sit (M0 := M) (Rs := fun o => ∃ M', o = some M' ∧ o_R M' w (o_hr P) ∧ o_F (o_rS w) M M') hm okp (fun M2 x h2 hg f2 => ?_) 1000 0 M1 0 (Nat.zero_le _) (by have := okp.1; omega) (h1.E ⟨rfl, rfl, rfl, rfl, fun i _ j _ => by rw [o_sitk_v, if_neg (by omega)]⟩) (o_G0.cong (fun p _ => by simp)) (okp.E ⟨rfl, rfl, rfl, rfl, fun i _ j _ => by rw [o_sitk_v, if_neg (by omega)]⟩) f1
    obtain ⟨M3, e3, h3, f3⟩ := r_fill2 hm h2 (o_sit_ok okp) hg
    exact ⟨M3, e3, h3, f2.tr f3⟩
  unfold X11_goesOn
  rw [r_hold hm h h8 0, Option.bind_some, r_hold hm h h8 1, Option.bind_some]
  by_cases c0 : o_hd P 0 = none
  · rw [if_pos ((o_oI_neg h8 hx).1.mpr c0)]
    exact tail (by unfold o_p1; rw [c0]; exact h) o_F.rf
  · rw [if_neg (fun e => c0 ((o_oI_neg h8 hx).1.mp e))]
    by_cases c1 : o_hd P 1 = none
    · rw [if_pos ((o_oI_neg h8 hy).1.mpr c1)]
      refine tail ?_ o_F.rf
      have e : o_p1 P = P := by
        unfold o_p1; rw [c1]
        cases o_hd P 0 <;> rfl
      rw [e]; exact h
    · rw [if_neg (fun e => c1 ((o_oI_neg h8 hy).1.mp e))]
      obtain ⟨x, ex⟩ := Option.ne_none_iff_exists'.mp c0
      obtain ⟨y, ey⟩ := Option.ne_none_iff_exists'.mp c1
      have hxn := hx x ex
      have hyn := hy y ey
      rw [ex, ey]
      have em : X11_isMonday Γ M m = if (pH P / 24) - (pH P / 24) / 7 * 7 = 0 then 1 else 0 := by unfold X11_isMonday; rw [hm, h.2.2.1]
      show ∃ M', ((X11_says Γ M m (nI x)).bind _) = _ ∧ _
      rw [r_say hm h ok hxn, Option.bind_some]
      show ∃ M', ((X11_says Γ M m (nI y)).bind _) = _ ∧ _
      rw [r_say hm h ok hyn, Option.bind_some, em]
      by_cases c : (pH P / 24) - (pH P / 24) / 7 * 7 = 0
      · rw [if_pos c, if_neg (by decide)]
        obtain ⟨M1, e1, h1, f1⟩ := r_self hm h ok hxn (o_say_sec ok hxn)
        obtain ⟨M2, e2, h2, f2⟩ := r_self hm h1 (o_self_ok ok hxn (o_say_sec ok hxn)) (i := y) (by rw [(o_self_E _ _ _).1]; exact hyn) (o_say_sec ok hyn)
        show ∃ M', ((X11_hearsItself Γ M m (nI x) (o_say P x)).bind _) = _ ∧ _
        rw [e1, Option.bind_some]
        show ∃ M', ((X11_hearsItself Γ M1 m (nI y) (o_say P y)).bind _) = _ ∧ _
        rw [e2, Option.bind_some]
        refine tail ?_ (f1.tr f2)
        unfold o_p1
        rw [ex, ey]
        show o_R M2 w (if _ then _ else _)
        rw [if_pos c]
        exact h2
      · rw [if_neg c, if_pos rfl]
        obtain ⟨M1, e1, h1, f1⟩ := r_hear hm h ok hxn (o_say_sec ok hyn)
        obtain ⟨M2, e2, h2, f2⟩ := r_hear hm h1 (o_hear_ok ok hxn (o_say_sec ok hyn)) (i := y) (by rw [(o_hear_E _ _ _).1]; exact hyn) (o_say_sec ok hxn)
        show ∃ M', ((X11_hears Γ M m (nI x) (o_say P y)).bind _) = _ ∧ _
        rw [e1, Option.bind_some]
        show ∃ M', ((X11_hears Γ M1 m (nI y) (o_say P x)).bind _) = _ ∧ _
        rw [e2, Option.bind_some]
        refine tail ?_ (f1.tr f2)
        unfold o_p1
        rw [ex, ey]
        show o_R M2 w (if _ then _ else _)
        rw [if_neg c]
        exact h2
theorem r_hours {Γ : Zg} {m w : Nat} (hm : z_r Γ m 0 = w) : ∀ (r f i : Nat) {M : Zm} {P : Pk}, o_R M w P → o_ok P → r < f → i + r < 1000 → ∃ M', X11_goes_P2 Γ f M m (nI (i + r)) (nI i) = some M' ∧ o_R M' w (o_hrs r P) ∧ o_F (o_rS w) M M'
  | 0, f + 1, i, M, P, h, ok, _, _ => by
    rw [X11_goes_P2, if_pos (nI_le (by omega) (by omega))]
    exact ⟨M, rfl, h, o_F.rf⟩
  | r + 1, f + 1, i, M, P, h, ok, hf, hb => by
    obtain ⟨M1, e1, h1, f1⟩ := r_on hm h ok
    obtain ⟨M2, e2, h2, f2⟩ := r_hours hm r f (i + 1) h1 (o_hr_ok ok) (by omega) (by omega)
    refine ⟨M2, ?_, h2, f1.tr f2⟩
    rw [X11_goes_P2, if_neg (nI_ge (by omega) (by omega)), e1, Option.bind_some, nI_s, show i + (r + 1) = i + 1 + r by omega]
    exact e2
theorem r_go {Γ : Zg} {m w : Nat} (hm : z_r Γ m 0 = w) {n : Nat} (hn : n < 999) {M : Zm} {P : Pk} (h : o_R M w P) (ok : o_ok P) : ∃ M', X11_goes Γ M m (nI n) = some M' ∧ o_R M' w (o_hrs n P) ∧ o_F (o_rS w) M M' := by
  have := r_hours hm n 1000 0 h ok (by omega) (by omega)
  rw [Nat.zero_add] at this
  exact this
