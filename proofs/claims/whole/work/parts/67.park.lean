/-! park -/
def o_lp (n : Nat) (y : Nat → Int32) : Nat → Nat → Pk → Tk → Bool × Nat × Pk
  | 0, _, P, T => (false, kS T, P)
  | r + 1, it, P, T => if (o_item n y P T).1 = true then (if kT (o_item n y P T).2.2 = 0 then (true, it, (o_item n y P T).2.1) else if kT (o_item n y P T).2.2 = 3 then o_lp n y r (it + 1) (o_item n y P T).2.1 (o_ad n y (o_item n y P T).2.2) else (false, kS (o_item n y P T).2.2, (o_item n y P T).2.1)) else (false, kS (o_item n y P T).2.2, (o_item n y P T).2.1)
def o_an (R : Bool × Nat × Pk) : Int32 := if R.1 = true then nI R.2.1 else -1 - nI R.2.1
theorem o_item_no (y : Nat → Int32) (n : Nat) (P : Pk) {T : Tk} (h : ¬ kT T = 1) : o_item n y P T = (false, P, T) := by
  have w : ∀ k, ¬ o_isw y T k = true := fun k q => h (o_iswI.mp q).1
  have kd : o_kd y T = none := by
    unfold o_kd
    rw [if_neg (w 0), if_neg (w 1), if_neg (w 2), if_neg (w 3), if_neg (w 4), if_neg (w 5)]
  rw [o_itemE.1 kd]
  unfold o_item0
  rw [if_neg (w 8), if_neg (w 9)]
theorem o_lp_ok (y : Nat → Int32) {n : Nat} (hn : n ≤ 120) : ∀ (r it : Nat) {P : Pk} {T : Tk}, o_ok P → o_kk n T → 1 ≤ it → it + r ≤ 122 → o_ok (o_lp n y r it P T).2.2 ∧ pH (o_lp n y r it P T).2.2 = pH P ∧ ((o_lp n y r it P T).1 = true → 1 ≤ (o_lp n y r it P T).2.1) ∧ (o_lp n y r it P T).2.1 ≤ 122
  | 0, it, P, T, ok, k, h1, h2 => ⟨ok, rfl, fun e => absurd (show false = true from e) (by decide), by have := k.1; have := k.2.1; show kS T ≤ 122; omega⟩
  | r + 1, it, P, T, ok, k, h1, h2 => by
    have q := o_item_ok y ok k
    have q1 := q.1.1
    have q2 := q.1.2.1
    rw [o_lp]
    by_cases c : (o_item n y P T).1 = true
    · rw [if_pos c]
      by_cases d : kT (o_item n y P T).2.2 = 0
      · rw [if_pos d]
        exact ⟨q.2.2.1, q.2.2.2, fun _ => h1, by show it ≤ 122; omega⟩
      · rw [if_neg d]
        by_cases e : kT (o_item n y P T).2.2 = 3
        · rw [if_pos e]
          have w := o_lp_ok y hn r (it + 1) (P := (o_item n y P T).2.1) (T := o_ad n y (o_item n y P T).2.2) q.2.2.1 (o_ad_ok y q.1).1 (by omega) (by omega)
          exact ⟨w.1, w.2.1.trans q.2.2.2, w.2.2.1, w.2.2.2⟩
        · rw [if_neg e]
          exact ⟨q.2.2.1, q.2.2.2, fun e => absurd (show false = true from e) (by decide), by show kS (o_item n y P T).2.2 ≤ 122; omega⟩
    · rw [if_neg c]
      exact ⟨q.2.2.1, q.2.2.2, fun e => absurd (show false = true from e) (by decide), by show kS (o_item n y P T).2.2 ≤ 122; omega⟩
theorem o_t4 {T : Tk} {x : Int32} {b : Nat} (h : kT T ≤ 4) (hb : b ≤ 4) (hx : x = nI b) : nI (kT T) = x ↔ kT T = b := by
  rw [hx]
  exact nI_eq (by omega) (by omega)
theorem c_lpL {Γ : Zg} {sz : Nat} (g : g_Ok Γ sz) {n : Nat} {y : Nat → Int32} (tp : o_tp n y) : ∀ (r f it : Nat) {M : Zm} {T : Tk} {P : Pk}, it + r = 122 → r < f → 1 ≤ it → it ≤ kS T + 1 → cY sz n y M T P → o_kk n T → o_ok P → ∃ M' T', X7_tellTo_P11 Γ f M (sz + 38) (sz + 18) (nI it) = some (o_an (o_lp n y r it P T), M') ∧ cY sz n y M' T' (o_lp n y r it P T).2.2 ∧ o_F (o_D sz) M M'
  | 0, f, it, M, T, P, hi, _, h1, hs, h, k, ok => by
    have := tp.1
    have := k.1
    have := k.2.1
    omega
  | r + 1, f + 1, it, M, T, P, hi, hf, h1, hs, h, k, ok => by
    have t1 := tp.1
    have k1 := k.1
    have k2 := k.2.1
    rw [X7_tellTo_P11]
    by_cases b : it = 121
    · have e0 : ¬ kT T = 1 := fun q => by
        have := k.2.2.2.1.mpr (by omega)
        omega
      have ei := o_item_no y n P e0
      refine ⟨M, T, ?_, ?_, o_F.rf⟩
      · rw [if_pos (show (120 : Int32) < nI it from by rw [b]; decide), o_lp, ei, if_neg (show ¬ (false = true) from by decide), h.2.2.1.2.1]
        rfl
      · rw [o_lp, ei, if_neg (show ¬ (false = true) from by decide)]
        exact h
    · rw [if_neg (show ¬ (120 : Int32) < nI it from nI_nlt (a := 120) (by omega) (by omega)), o_lp]
      obtain ⟨M1, e1, h1', f1⟩ := c_item g tp h k ok
      have q := o_item_ok y ok k
      have q1 := q.1.1
      have q2 := q.1.2.1
      have q3 := q.1.2.2.1
      have q4 := q.2.1
      rw [e1, z_bps, h1'.2.2.1.1, h1'.2.2.1.2.1]
      by_cases c : (o_item n y P T).1 = true
      · rw [if_neg (fun q => o_b1z.mp q c), if_pos c]
        by_cases d : kT (o_item n y P T).2.2 = 0
        · rw [if_pos (c := nI (kT (o_item n y P T).2.2) = 0) ((o_t4 q3 (b := 0) (by omega) rfl).mpr d), if_pos d]
          exact ⟨M1, _, rfl, h1', f1⟩
        · rw [if_neg (c := nI (kT (o_item n y P T).2.2) = 0) (fun e => d ((o_t4 q3 (b := 0) (by omega) rfl).mp e)), if_neg d]
          by_cases e : kT (o_item n y P T).2.2 = 3
          · rw [if_pos (c := nI (kT (o_item n y P T).2.2) = 3) ((o_t4 q3 (b := 3) (by omega) rfl).mpr e), if_pos e]
            obtain ⟨M2, e2, h2, f2⟩ := c_adY g tp h1' q.1 q.2.2.1.1
            have a := o_ad_ok y q.1
            have a2 := a.2
            have q5 := q.1.2.2.2.2.1 e
            obtain ⟨M', T', e', h', f'⟩ := c_lpL g tp r f (it + 1) (by omega) (by omega) (by omega) (by omega) h2 a.1 q.2.2.1
            refine ⟨M', T', ?_, h', (f1.tr f2).tr f'⟩
            rw [e2, Option.bind_some, nI_s]
            exact e'
          · rw [if_neg (c := nI (kT (o_item n y P T).2.2) = 3) (fun w => e ((o_t4 q3 (b := 3) (by omega) rfl).mp w)), if_neg e]
            exact ⟨M1, _, rfl, h1', f1⟩
      · rw [if_pos (o_b1z.mpr c), if_neg c]
        exact ⟨M1, _, rfl, h1', f1⟩
theorem c_tell {Γ : Zg} {sz : Nat} (g : g_Ok Γ sz) {n : Nat} {y : Nat → Int32} (tp : o_tp n y) {M : Zm} {P : Pk} (h1 : M.1 (sz + 38) 1 = nI n) (hy : ∀ k, k < n → M.1 (sz + 39) k = y k) (hc : o_C M (sz + 18) P) (ok : o_ok P) : ∃ M' T', X7_tellTo Γ M (sz + 38) (sz + 18) = some (o_an (o_lp n y 121 1 P (o_tk n y 0)), M') ∧ cY sz n y M' T' (o_lp n y 121 1 P (o_tk n y 0)).2.2 ∧ o_F (o_D sz) M M' := by
  have sa : o_rS (sz + 38) (sz + 38) := rfl
  have f0 : o_F (o_rS (sz + 38)) M (z_i M (sz + 38) 4 0) := o_F.i sa
  obtain ⟨M1, e1, c1, j1, f1⟩ := c_adv (y := y) (gx g).2.2.2.2.2.2.2.1 (by omega) tp.1 tp.2 (M := z_i M (sz + 38) 4 0) (i := 0) (Nat.zero_le n) (by rw [z_i_of _ _ (by decide)]; exact h1) (fun k hk => by rw [z_i_ne (by omega)]; exact hy k hk) (z_i_at _ _ _ _)
  have F := f0.tr f1
  have ne : ∀ b, b ≠ sz + 38 → M1.1 b = M.1 b := fun b hb => F.1 b hb
  have Y : cY sz n y M1 (o_tk n y 0) P := ⟨by rw [j1 1 (by decide), z_i_of _ _ (by decide)]; exact h1, fun k hk => by rw [ne _ (by omega)]; exact hy k hk, c1, hc.keep ok.1 (fun b _ _ => ne b (by omega))⟩
  obtain ⟨M', T', e', h', f'⟩ := c_lpL g tp 121 1000 1 (by omega) (by omega) (by omega) (by omega) Y (o_tk_ok y (Nat.zero_le n)).2 ok
  refine ⟨M', T', ?_, h', (f_D38 F).tr f'⟩
  unfold X7_tellTo
  rw [z_lts, e1, Option.bind_some]
  exact e'
theorem r_lpL {Γ : Zg} {sz : Nat} (g : g_Ok Γ sz) {n : Nat} {y : Nat → Int32} (tp : o_tp n y) : ∀ (r f it : Nat) {M : Zm} {T : Tk} {P : Pk}, it + r = 122 → r < f → it ≤ kS T + 1 → rY sz n y M T P → o_kk n T → o_ok P → ∃ M' T' l, z_bp (X11_itemHere Γ M (sz + 51)) (fun r9 M10 => X11_park_P27 Γ f M10 (sz + 51) (nI it) r9) = X11_park_P77 Γ M' (sz + 51) l (o_b1 (o_lp n y r it P T).1) ∧ rY sz n y M' T' (o_lp n y r it P T).2.2 ∧ o_Z sz M M' ∧ ((o_lp n y r it P T).1 = true → l = nI (o_lp n y r it P T).2.1) ∧ ((o_lp n y r it P T).1 = false → M'.1 (sz + 51) 15 = nI (o_lp n y r it P T).2.1)
  | 0, f, it, M, T, P, hi, _, hs, h, k, ok => by
    have := tp.1
    have := k.1
    have := k.2.1
    omega
  | r + 1, f + 1, it, M, T, P, hi, hf, hs, h, k, ok => by
    obtain ⟨M1, b, e1, h1, z1, t1, w1⟩ := r_item g tp h k ok
    have q := o_item_ok y ok k
    have q1 := q.1.1
    have q2 := q.1.2.1
    have q3 := q.1.2.2.1
    have q4 := q.2.1
    rw [e1, z_bps, o_lp, X11_park_P27, h1.2.2.1.1]
    cases b with
    | false =>
      have w := w1 rfl
      rw [if_pos (by decide)]
      unfold X11_park_P54
      rw [if_pos (by decide)]
      have eq : (if (o_item n y P T).1 = true then (if kT (o_item n y P T).2.2 = 0 then (true, it, (o_item n y P T).2.1) else if kT (o_item n y P T).2.2 = 3 then o_lp n y r (it + 1) (o_item n y P T).2.1 (o_ad n y (o_item n y P T).2.2) else (false, kS (o_item n y P T).2.2, (o_item n y P T).2.1)) else (false, kS (o_item n y P T).2.2, (o_item n y P T).2.1)) = (false, kS (o_item n y P T).2.2, (o_item n y P T).2.1) := by
        rcases w.2 with e | e
        · rw [if_neg (by rw [e]; decide)]
        · rw [if_neg (c := kT (o_item n y P T).2.2 = 0) (by omega), if_neg (c := kT (o_item n y P T).2.2 = 3) (by omega)]
          split <;> rfl
      rw [eq]
      exact ⟨M1, _, _, rfl, h1, z1, fun e => absurd (show false = true from e) (by decide), fun _ => w.1⟩
    | true =>
      rw [if_neg (by decide), if_pos (t1 rfl)]
      by_cases e : kT (o_item n y P T).2.2 = 3
      · rw [if_pos (c := nI (kT (o_item n y P T).2.2) = 3) ((o_t4 q3 (b := 3) (by omega) rfl).mpr e), if_neg (c := kT (o_item n y P T).2.2 = 0) (by omega), if_pos e]
        obtain ⟨M2, e2, h2, z2⟩ := r_adY g tp h1 q.1
        have a := o_ad_ok y q.1
        have a2 := a.2
        have q5 := q.1.2.2.2.2.1 e
        obtain ⟨M', T', l, e', h', z', t', w'⟩ := r_lpL g tp r f (it + 1) (by omega) (by omega) (by omega) h2 a.1 q.2.2.1
        refine ⟨M', T', l, ?_, h', (z1.tr z2).tr z', t', w'⟩
        rw [e2, Option.bind_some, nI_s]
        exact e'
      · rw [if_neg (c := nI (kT (o_item n y P T).2.2) = 3) (fun w => e ((o_t4 q3 (b := 3) (by omega) rfl).mp w)), if_neg e]
        unfold X11_park_P54
        rw [if_neg (by decide), h1.2.2.1.1]
        by_cases d : kT (o_item n y P T).2.2 = 0
        · rw [if_pos (c := nI (kT (o_item n y P T).2.2) = 0) ((o_t4 q3 (b := 0) (by omega) rfl).mpr d), if_pos d]
          exact ⟨M1, _, _, rfl, h1, z1, fun _ => rfl, fun e => absurd (show true = false from e) (by decide)⟩
        · rw [if_neg (c := nI (kT (o_item n y P T).2.2) = 0) (fun e => d ((o_t4 q3 (b := 0) (by omega) rfl).mp e)), if_neg d, r_flE h1, z_lps, if_pos rfl]
          have w := r_flY h1
          exact ⟨_, _, _, rfl, w.1, z1.tr w.2.1, fun e => absurd (show false = true from e) (by decide), fun _ => w.2.2⟩
theorem SM.park {sz : Nat} {M M' : Zm} {S : Sg} {P : Pk} (h : SM sz M S) (hP : o_R M' (sz + 52) P) (hB : M'.1 (sz + 51) 4 = M.1 (sz + 51) 4) (h7 : M'.1 (sz + 51) 7 = nI 0) (e : ∀ b, b ≠ sz + 51 → b ≠ sz + 52 → b ≠ sz + 54 → M'.1 b = M.1 b) (el : M'.2 = M.2) : SM sz M' (uT (uP S P) 0 (sY S)) := by
  obtain ⟨h1, h2, h3, h4, h5, h6⟩ := h
  refine ⟨hP, ⟨by rw [hB]; exact h2.1, fun q => (h2.2 q).keep (e _ (by omega) (by omega) (by omega))⟩, ⟨h7, fun k hk => absurd hk (Nat.not_lt_zero k)⟩, fun t ht => ?_, by rw [e _ (by omega) (by omega) (by omega)]; exact h5, fun i hi => by rw [e _ (by omega) (by omega) (by omega)]; exact h6 i hi⟩
  rw [e _ (by omega) (by omega) (by omega), e _ (by omega) (by omega) (by omega), el]
  exact h4 t ht
theorem SC.park {sz : Nat} {M M' : Zm} {S : Sg} {P : Pk} (h : SC sz M S) (o : SO S) (hP : o_C M' (sz + 8) P) (h7 : M'.1 (sz + 38) 1 = nI 0) (e : ∀ b, ¬ (sz + 8 ≤ b ∧ b < sz + 28) → b ≠ sz + 38 → M'.1 b = M.1 b) (el : M'.2 = M.2) : SC sz M' (uT (uP S P) 0 (sY S)) := by
  obtain ⟨h1, h2, h3, h4, h5⟩ := h
  refine ⟨hP, ⟨by rw [e _ (by omega) (by omega)]; exact h2.1, fun q => (h2.2 q).keep ?_ (fun b _ _ => e b (by omega) (by omega))⟩, ⟨h7, fun k hk => absurd hk (Nat.not_lt_zero k)⟩, fun t ht => ?_, fun i hi => by rw [e _ (by omega) (by omega)]; exact h5 i hi⟩
  · rcases o.2.1 with q' | q'
    · exact absurd q' q
    · exact q'.2.1.1
  · rw [e _ (by omega) (by omega), el]
    exact h4 t ht
theorem t_anF : ∀ q, q ≤ 122 → -1 - nI q ≤ 0 := by decide +kernel
theorem t_anT : ∀ q, q ≤ 122 → 1 ≤ q → ¬ nI q ≤ 0 := by decide +kernel
theorem c_park {Γ : Zg} {sz : Nat} (g : g_Ok Γ sz) {S : Sg} (o : SO S) {R : Bool × Nat × Pk} (hR : R = o_lp (sN S) (sY S) 121 1 (sP S) (o_tk (sN S) (sY S) 0)) : cO sz (fun M => X10_park Γ M sz) S (o_an R) (uT (uP S (if R.1 = true then R.2.2 else sP S)) 0 (sY S)) := by
  intro M h
  have tp : o_tp (sN S) (sY S) := o.2.2.1
  have rk := o_lp_ok (sY S) tp.1 121 1 (P := sP S) (T := o_tk (sN S) (sY S) 0) o.1.1 (o_tk_ok (sY S) (Nat.zero_le _)).2 (by omega) (by omega)
  rw [← hR] at rk
  obtain ⟨M1, e1, c1, f1⟩ := c_bec18 g o h
  have n1 : ∀ b, ¬ o_cS (sz + 18) b → M1.1 b = M.1 b := fun b hb => f1.1 b hb
  obtain ⟨M2, T2, e2, h2, f2⟩ := c_tell g tp (M := M1) (by rw [n1 _ (fun q => by have := q.2; omega)]; exact h.2.2.1.1) (fun k hk => by rw [n1 _ (fun q => by have := q.2; omega)]; exact h.2.2.1.2 k hk) c1 o.1.1
  rw [← hR] at e2 h2
  have F2 := (f_D18 f1).tr f2
  show ∃ M', X10_park Γ M sz = _ ∧ _
  unfold X10_park
  rw [e1, Option.bind_some, (gx g).2.2.2.1, (gx g).2.1, (gx g).1, e2, z_bps]
  have s38 : o_rS (sz + 38) (sz + 38) := rfl
  by_cases c : R.1 = true
  · have ea : o_an R = nI R.2.1 := if_pos c
    rw [if_pos c, ea, if_neg (t_anT _ rk.2.2.2 (rk.2.2.1 c))]
    obtain ⟨M3, e3, c3, f3⟩ := c_bec (g_P8 g) (g_P18 g) (by omega) h2.2.2.2 rk.1.1
    rw [e3, Option.bind_some, z_lts]
    have ne : ∀ b, ¬ (sz + 8 ≤ b ∧ b < sz + 28) → b ≠ sz + 38 → (z_i M3 (sz + 38) 1 0).1 b = M.1 b := fun b hb hc => by
      rw [z_i_ne hc, f3.1 b (fun q => hb ⟨by have := q.1; omega, by have := q.2; omega⟩), F2.1 b (fun q => q.elim (fun w => hb ⟨by have := w.1; omega, by have := w.2; omega⟩) hc)]
    have el : (z_i M3 (sz + 38) 1 0).2 = M.2 := by
      rw [z_i_2, f3.2, F2.2]
    exact ⟨_, rfl, SC.park h o (c3.keep rk.1.1 (fun b h1 h2 => z_i_ne (by omega))) (z_i_at _ _ _ _) ne el, fun b hb => ⟨ne b (by omega) (by omega), by rw [el]⟩⟩
  · have ea : o_an R = -1 - nI R.2.1 := if_neg c
    rw [if_neg c, ea, if_pos (t_anF _ rk.2.2.2), z_lts]
    have ne' : ∀ b, ¬ o_D sz b → M2.1 b = M.1 b := fun b hb => F2.1 b hb
    have ne : ∀ b, ¬ (sz + 8 ≤ b ∧ b < sz + 28) → b ≠ sz + 38 → (z_i M2 (sz + 38) 1 0).1 b = M.1 b := fun b hb hc => by
      rw [z_i_ne hc, ne' b (fun q => q.elim (fun w => hb ⟨by have := w.1; omega, by have := w.2; omega⟩) hc)]
    have el : (z_i M2 (sz + 38) 1 0).2 = M.2 := by
      rw [z_i_2, F2.2]
    exact ⟨_, rfl, SC.park h o (h.1.keep o.1.1.1 (fun b h1 h2 => by rw [z_i_ne (by omega), ne' b (fun q => q.elim (fun w => by have := w.1; omega) (fun w => by omega))])) (z_i_at _ _ _ _) ne el, fun b hb => ⟨ne b (by omega) (by omega), by rw [el]⟩⟩
theorem r_park {Γ : Zg} {sz : Nat} (g : g_Ok Γ sz) {S : Sg} (o : SO S) {R : Bool × Nat × Pk} (hR : R = o_lp (sN S) (sY S) 121 1 (sP S) (o_tk (sN S) (sY S) 0)) : rO sz (fun M => X11_park Γ M (sz + 51)) S (o_an R) (uT (uP S (if R.1 = true then R.2.2 else sP S)) 0 (sY S)) := by
  intro M h
  have tp : o_tp (sN S) (sY S) := o.2.2.1
  obtain ⟨M1, e1, c1, f1⟩ := r_cop (v := sz + 52) (w := sz + 54) (by omega) h.1 o.1.1.1
  have n1 : ∀ b, b ≠ sz + 54 → M1.1 b = M.1 b := fun b hb => f1.1 b hb
  have s51 : o_rS (sz + 51) (sz + 51) := rfl
  obtain ⟨M2, e2, c2, j2, f2⟩ := r_adv (y := sY S) (gm g).2.2.2.2.2.1 (by omega) tp.1 tp.2 (M := z_i M1 (sz + 51) 13 0) (i := 0) (Nat.zero_le _) (by rw [z_i_of _ _ (by decide), n1 _ (by omega)]; exact h.2.2.1.1) (fun k hk => by rw [z_i_ne (by omega), n1 _ (by omega)]; exact h.2.2.1.2 k hk) (z_i_at _ _ _ _)
  have n2 : ∀ b, b ≠ sz + 51 → M2.1 b = M1.1 b := fun b hb => by rw [f2.1 b hb, z_i_ne hb]
  have l2 : M2.2 = M.2 := by rw [f2.2, z_i_2, f1.2]
  have Y2 : rY sz (sN S) (sY S) M2 (o_tk (sN S) (sY S) 0) (sP S) := ⟨by rw [j2 7 (by omega), z_i_of _ _ (by decide), n1 _ (by omega)]; exact h.2.2.1.1, fun k hk => by rw [n2 _ (by omega), n1 _ (by omega)]; exact h.2.2.1.2 k hk, c2, h.1.keep (by rw [n2 _ (by omega), n1 _ (by omega)])⟩
  obtain ⟨M3, T3, l, e3, h3, z3, t3, w3⟩ := r_lpL g tp 121 1000 1 (by omega) (by omega) (by omega) Y2 (o_tk_ok (sY S) (Nat.zero_le _)).2 o.1.1
  rw [← hR] at e3 h3 t3 w3
  have n3 : ∀ b, b ≠ sz + 51 → b ≠ sz + 52 → b ≠ sz + 54 → M3.1 b = M.1 b := fun b p q r => by rw [z3.1 b p q, n2 b p, n1 b r]
  have b3 : M3.1 (sz + 51) 4 = M.1 (sz + 51) 4 := by rw [z3.2.2, j2 4 (by omega), z_i_of _ _ (by decide), n1 _ (by omega)]
  have l3 : M3.2 = M.2 := z3.2.1.trans l2
  show ∃ M', X11_park Γ M (sz + 51) = _ ∧ _
  have E : X11_park Γ M (sz + 51) = X11_park_P77 Γ M3 (sz + 51) l (o_b1 R.1) := by
    unfold X11_park
    rw [(gm g).1, (gm g).2.2.1, e1, Option.bind_some, z_lts, e2, Option.bind_some]
    exact e3
  rw [E]
  unfold X11_park_P77
  rw [z_lts]
  by_cases c : R.1 = true
  · have ea : o_an R = nI R.2.1 := if_pos c
    rw [if_pos c, ea, if_neg (fun q => o_b1z.mp q c)]
    unfold X11_park_P98
    rw [if_neg (fun q => o_b1z.mp q c), t3 c]
    have ne : ∀ b, b ≠ sz + 51 → b ≠ sz + 52 → b ≠ sz + 54 → (z_i M3 (sz + 51) 7 0).1 b = M.1 b := fun b p q r => by rw [z_i_ne p, n3 b p q r]
    have el : (z_i M3 (sz + 51) 7 0).2 = M.2 := by rw [z_i_2, l3]
    exact ⟨_, rfl, SM.park h (h3.2.2.2.keep (z_i_ne (by omega))) (by rw [z_i_of _ _ (by decide)]; exact b3) (z_i_at _ _ _ _) ne el, fun b hb => ⟨ne b (by omega) (by omega) (by omega), by rw [el]⟩⟩
  · have cf : R.1 = false := Bool.eq_false_iff.mpr c
    have ea : o_an R = -1 - nI R.2.1 := if_neg c
    rw [if_neg c, ea, if_pos (o_b1z.mpr c), (gm g).1, (gm g).2.2.1]
    have r54 : o_R (z_i M3 (sz + 51) 7 0) (sz + 54) (sP S) := c1.keep (by rw [z_i_ne (by omega), z3.1 _ (by omega) (by omega), n2 _ (by omega)])
    obtain ⟨M4, e4, c4, f4⟩ := r_cop (v := sz + 54) (w := sz + 52) (by omega) r54 o.1.1.1
    have n4 : ∀ b, b ≠ sz + 52 → M4.1 b = (z_i M3 (sz + 51) 7 0).1 b := fun b hb => f4.1 b hb
    rw [e4, Option.bind_some]
    unfold X11_park_P98
    rw [if_pos (o_b1z.mpr c), n4 _ (by omega), z_i_of _ _ (by decide), w3 cf]
    have ne : ∀ b, b ≠ sz + 51 → b ≠ sz + 52 → b ≠ sz + 54 → M4.1 b = M.1 b := fun b p q r => by rw [n4 b q, z_i_ne p, n3 b p q r]
    have el : M4.2 = M.2 := by rw [f4.2, z_i_2, l3]
    exact ⟨_, rfl, SM.park h c4 (by rw [n4 _ (by omega), z_i_of _ _ (by decide)]; exact b3) (by rw [n4 _ (by omega), z_i_at]; rfl) ne el, fun b hb => ⟨ne b (by omega) (by omega) (by omega), by rw [el]⟩⟩
theorem e_park {Γ : Zg} {sz : Nat} (g : g_Ok Γ sz) {S : Sg} (o : SO S) : eS sz (fun M => X10_park Γ M sz) (fun M => X11_park Γ M (sz + 51)) S := by
  have tp : o_tp (sN S) (sY S) := o.2.2.1
  have rk := o_lp_ok (sY S) tp.1 121 1 (P := sP S) (T := o_tk (sN S) (sY S) 0) o.1.1 (o_tk_ok (sY S) (Nat.zero_le _)).2 (by omega) (by omega)
  refine ⟨_, _, c_park g o rfl, r_park g o rfl, ⟨?_, o.2.1, ⟨by show (0 : Nat) ≤ 120; omega, fun k hk => absurd hk (Nat.not_lt_zero k)⟩, o.2.2.2⟩⟩
  show o_kh (if _ = true then _ else sP S)
  by_cases c : (o_lp (sN S) (sY S) 121 1 (sP S) (o_tk (sN S) (sY S) 0)).1 = true
  · rw [if_pos c]
    exact ⟨rk.1, by rw [rk.2.1]; exact o.1.2⟩
  · rw [if_neg c]
    exact o.1
