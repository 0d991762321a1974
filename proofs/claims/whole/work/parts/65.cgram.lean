/-! the class reads the text into its second park -/
def cY (sz n : Nat) (y : Nat → Int32) (M : Zm) (T : Tk) (P : Pk) : Prop := M.1 (sz + 38) 1 = nI n ∧ (∀ k, k < n → M.1 (sz + 39) k = y k) ∧ cTk (sz + 38) M T ∧ o_C M (sz + 18) P
def o_D (sz : Nat) : Nat → Prop := fun b => o_cS (sz + 18) b ∨ b = sz + 38
theorem f_D18 {sz : Nat} {M M' : Zm} (f : o_F (o_cS (sz + 18)) M M') : o_F (o_D sz) M M' := f.mono (fun _ hb => Or.inl hb)
theorem f_D38 {sz : Nat} {M M' : Zm} (f : o_F (o_rS (sz + 38)) M M') : o_F (o_D sz) M M' := f.mono (fun _ hb => Or.inr hb)
theorem cY.pk {sz n : Nat} {y : Nat → Int32} {M M' : Zm} {T : Tk} {P P' : Pk} (h : cY sz n y M T P) (c : o_C M' (sz + 18) P') (f : o_F (o_cS (sz + 18)) M M') : cY sz n y M' T P' := by
  have e38 : M'.1 (sz + 38) = M.1 (sz + 38) := f.1 _ (fun q => by have := q.2; omega)
  have e39 : M'.1 (sz + 39) = M.1 (sz + 39) := f.1 _ (fun q => by have := q.2; omega)
  refine ⟨by rw [e38]; exact h.1, fun k hk => by rw [e39]; exact h.2.1 k hk, ?_, c⟩
  unfold cTk
  rw [e38]
  exact h.2.2.1
theorem c_adY {Γ : Zg} {sz : Nat} (g : g_Ok Γ sz) {n : Nat} {y : Nat → Int32} (tp : o_tp n y) {M : Zm} {T : Tk} {P : Pk} (h : cY sz n y M T P) (k : o_kk n T) (h8 : pN P ≤ 8) : ∃ M', X7_advance Γ M (sz + 38) = some M' ∧ cY sz n y M' (o_ad n y T) P ∧ o_F (o_D sz) M M' := by
  obtain ⟨M', e', c', j', f'⟩ := c_adv (y := y) (gx g).2.2.2.2.2.2.2.1 (by omega) tp.1 tp.2 (M := M) k.2.1 h.1 h.2.1 h.2.2.1.2.2.1
  refine ⟨M', e', ⟨by rw [j' 1 (by decide)]; exact h.1, fun k hk => by rw [f'.1 (sz + 39) (fun q => by unfold o_rS at q; omega)]; exact h.2.1 k hk, c', h.2.2.2.keep h8 (fun b h1 h2 => f'.1 b (fun q => by unfold o_rS at q; omega))⟩, f_D38 f'⟩
theorem c_nb {sz n : Nat} {y : Nat → Int32} {M : Zm} {T : Tk} {P : Pk} (h : cY sz n y M T P) (k : o_kk n T) {b : Nat} (hb : b ≤ 10) {x : Int32} (hx : x = nI b) : X7_isNumberBelow M (sz + 38) x = o_b1 (o_nb T b) := by
  unfold X7_isNumberBelow
  rw [h.2.2.1.1, hx]
  have k3 := k.2.2.1
  have k6 := k.2.2.2.2.2
  by_cases c : kT T = 2
  · rw [if_pos (show nI (kT T) = (2 : Int32) from by rw [c]; rfl), h.2.2.1.2.2.2 c]
    by_cases d : kV T < b
    · rw [if_neg (nI_ge d (by omega)), o_b1t (o_nbI.mpr ⟨c, d⟩)]
    · rw [if_pos (nI_le (by omega) (by omega)), o_b1f (fun q => d (o_nbI.mp q).2)]
  · rw [if_neg (show ¬ nI (kT T) = (2 : Int32) from fun q => c ((nI_eq (a := kT T) (b := 2) (by omega) (by omega)).mp q)), o_b1f (fun q => c (o_nbI.mp q).1)]
theorem c_isY {Γ : Zg} {sz : Nat} (g : g_Ok Γ sz) {n : Nat} {y : Nat → Int32} (tp : o_tp n y) {M : Zm} {T : Tk} {P : Pk} (h : cY sz n y M T P) (k : o_kk n T) {j : Nat} (hj : j < 10) : X7_isWord Γ M (sz + 38) j = some (o_b1 (o_isw y T j)) :=
  c_isw (gx g).2.2.2.2.2.2.2.1 tp.1 h.2.1 h.2.2.1 k.1 k.2.1 k.2.2.1 hj
theorem c_knL {Γ : Zg} {sz : Nat} (g : g_Ok Γ sz) {n : Nat} {y : Nat → Int32} (tp : o_tp n y) {p : Nat} : ∀ (r f i : Nat) {M : Zm} {T : Tk} {P : Pk}, i + r = 4 → r < f → cY sz n y M T P → o_kk n T → o_ok P → p < pN P → ∃ M', X7_tellKnown_P17 Γ f M (sz + 38) (sz + 18 + 2 + p) (nI i) = some (1, M') ∧ cY sz n y M' (o_kn n y p r P T).2 (o_kn n y p r P T).1 ∧ o_F (o_D sz) M M'
  | 0, f + 1, i, M, T, P, hi, _, h, k, ok, hp => by
    have : i = 4 := by omega
    subst this
    rw [X7_tellKnown_P17, if_pos (by decide)]
    exact ⟨M, rfl, h, o_F.rf⟩
  | r + 1, f + 1, i, M, T, P, hi, hf, h, k, ok, hp => by
    have h8 := ok.1
    rw [X7_tellKnown_P17, if_neg (show ¬ (4 : Int32) ≤ nI i from nI_ge (b := 4) (by omega) (by omega)), c_nb h k (b := 10) (by omega) (x := 10) rfl, o_kn]
    by_cases c : o_nb T 10 = true
    · rw [if_neg (fun q => o_b1z.mp q c), if_pos c]
      have s : o_cS (sz + 18) (sz + 18 + 2 + p) := ⟨by omega, by omega⟩
      have c1 := h.2.2.2.v (i := p) (j := 1) (pV P p 1 ||| ((1 : Int32) <<< (nI (kV T) &&& 31))) hp (by decide)
      have f1 : o_F (o_cS (sz + 18)) M (z_i M (sz + 18 + 2 + p) 1 (pV P p 1 ||| ((1 : Int32) <<< (nI (kV T) &&& 31)))) := o_F.i s
      have h1 := h.pk c1 f1
      obtain ⟨M2, e2, h2, f2⟩ := c_adY g tp h1 k h8
      obtain ⟨M', e', h', f'⟩ := c_knL g tp (p := p) r f (i + 1) (by omega) (by omega) h2 (o_ad_ok y k).1 (o_kb_ok ok hp (o_nbI.mp c).2) hp
      refine ⟨M', ?_, h', ((f_D18 f1).tr f2).tr f'⟩
      rw [h.2.2.2.2.2.2.2 p hp 1 (by decide), h.2.2.1.2.2.2 (o_nbI.mp c).1, z_lts, e2, Option.bind_some, nI_s]
      exact e'
    · rw [if_pos (o_b1z.mpr c), if_neg c]
      exact ⟨M, rfl, h, o_F.rf⟩
theorem c_known {Γ : Zg} {sz : Nat} (g : g_Ok Γ sz) {n : Nat} {y : Nat → Int32} (tp : o_tp n y) {p : Nat} {M : Zm} {T : Tk} {P : Pk} (h : cY sz n y M T P) (k : o_kk n T) (ok : o_ok P) (hp : p < pN P) : ∃ M', X7_tellKnown Γ M (sz + 38) (sz + 18 + 2 + p) = some (o_b1 (o_known n y p P T).1, M') ∧ cY sz n y M' (o_known n y p P T).2.2 (o_known n y p P T).2.1 ∧ o_F (o_D sz) M M' := by
  obtain ⟨M1, e1, h1, f1⟩ := c_adY g tp h k ok.1
  have k1 := (o_ad_ok y k).1
  unfold X7_tellKnown o_known
  rw [e1, Option.bind_some, c_nb h1 k1 (b := 10) (by omega) (x := 10) rfl]
  by_cases c : o_nb (o_ad n y T) 10 = true
  · rw [if_neg (fun q => o_b1z.mp q c), if_pos c]
    obtain ⟨M', e', h', f'⟩ := c_knL g tp (p := p) 4 1000 0 (by omega) (by omega) h1 k1 ok hp
    exact ⟨M', e', h', f1.tr f'⟩
  · rw [if_pos (o_b1z.mpr c), if_neg c]
    exact ⟨M1, rfl, h1, f1⟩
theorem o_n01 {v : Nat} (hv : v < 2) : nI v ≠ -1 := nI_nm1 v (by omega)
theorem c_seat {Γ : Zg} {sz : Nat} (g : g_Ok Γ sz) {n : Nat} {y : Nat → Int32} (tp : o_tp n y) {p : Nat} {M : Zm} {T : Tk} {P : Pk} (h : cY sz n y M T P) (k : o_kk n T) (ok : o_ok P) (hp : p < pN P) : ∃ M', X7_tellSeat Γ M (sz + 38) (sz + 18) (sz + 18 + 2 + p) = some (o_b1 (o_seat n y p P T).1, M') ∧ cY sz n y M' (o_seat n y p P T).2.2 (o_seat n y p P T).2.1 ∧ o_F (o_D sz) M M' := by
  obtain ⟨M1, e1, h1, f1⟩ := c_adY g tp h k ok.1
  have k1 := (o_ad_ok y k).1
  unfold X7_tellSeat o_seat
  rw [e1, Option.bind_some, c_nb h1 k1 (b := 2) (by omega) (x := 2) rfl]
  by_cases c : o_nb (o_ad n y T) 2 = true
  · have hv := (o_nbI.mp c).2
    rw [if_neg (fun q => o_b1z.mp q c), h1.2.2.1.2.2.2 (o_nbI.mp c).1, c_hold (g_P18 g) h1.2.2.2 ok (o_n01 hv), Option.bind_some]
    have ng := (o_oI_neg ok.1 (x := o_hd P (nI (kV (o_ad n y T)))) (fun i hi => (o_hd_some hi).1)).2.2
    by_cases d : o_hd P (nI (kV (o_ad n y T))) = none
    · rw [if_pos (ng.mpr d), if_pos ⟨c, d⟩, z_lts]
      obtain ⟨c2, f2⟩ := c_set2 h1.2.2.2 ok.1 hp (nI (kV (o_ad n y T)))
      have h2 := h1.pk c2 f2
      obtain ⟨M3, e3, h3, f3⟩ := c_adY g tp h2 k1 ok.1
      refine ⟨M3, ?_, h3, (f1.tr (f_D18 f2)).tr f3⟩
      rw [e3, Option.bind_some]
      rfl
    · rw [if_neg (fun q => d (ng.mp q)), if_neg (fun q => d q.2)]
      exact ⟨M1, rfl, h1, f1⟩
  · rw [if_pos (o_b1z.mpr c), if_neg (fun q => c q.1)]
    exact ⟨M1, rfl, h1, f1⟩
theorem o_b1s {b : Bool} {α : Type} (M : α) : (if o_b1 b = 0 then some ((0 : Int32), M) else some ((1 : Int32), M)) = some (o_b1 b, M) := by
  cases b <;> rfl
theorem o_b1r {b : Bool} {α : Type} (M : α) : (if o_b1 b = 0 ∨ o_b1 b = 1 then some (o_b1 b, M) else none) = some (o_b1 b, M) := by
  cases b <;> rfl
theorem c_v33 {Γ : Zg} {sz : Nat} (g : g_Ok Γ sz) {n : Nat} {y : Nat → Int32} (tp : o_tp n y) {p : Nat} {M : Zm} {T : Tk} {P : Pk} (h : cY sz n y M T P) (k : o_kk n T) (ok : o_ok P) (hp : p < pN P) : ∃ M', X7_tellVisitor_P33 Γ M (sz + 38) (sz + 18) (sz + 18 + 2 + p) = some (o_b1 (o_v33 n y p P T).1, M') ∧ cY sz n y M' (o_v33 n y p P T).2.2 (o_v33 n y p P T).2.1 ∧ o_F (o_D sz) M M' := by
  unfold X7_tellVisitor_P33 o_v33
  rw [c_isY g tp h k (by decide), Option.bind_some]
  by_cases c : o_isw y T 7 = true
  · rw [if_neg (fun q => o_b1z.mp q c), if_pos c]
    obtain ⟨M', e', h', f'⟩ := c_seat g tp h k ok hp
    refine ⟨M', ?_, h', f'⟩
    rw [e', z_bps, o_b1s]
  · rw [if_pos (o_b1z.mpr c), if_neg c]
    exact ⟨M, rfl, h, o_F.rf⟩
theorem c_visT {Γ : Zg} {sz : Nat} (g : g_Ok Γ sz) {n : Nat} {y : Nat → Int32} (tp : o_tp n y) {q : Nat} (hq : q < 6) {M : Zm} {T : Tk} {P : Pk} (h : cY sz n y M T P) (k : o_kk n T) (ok : o_ok P) (h8 : pN P < 8) : ∃ M', X7_tellVisitor Γ M (sz + 38) (sz + 18) (nI q) = some (o_b1 (o_vis n y (nI q) P T).1, M') ∧ cY sz n y M' (o_vis n y (nI q) P T).2.2 (o_vis n y (nI q) P T).2.1 ∧ o_F (o_D sz) M M' := by
  obtain ⟨M1, e1, c1, f1⟩ := c_wel (g_P18 g) h.2.2.2 h8 (nI q)
  have ok1 := o_new_ok ok h8 hq
  have hp : pN P < pN (o_new P (nI q)) := Nat.lt_succ_self _
  have h1 := h.pk c1 f1
  obtain ⟨M2, e2, h2, f2⟩ := c_adY g tp h1 k ok1.1
  have k2 := (o_ad_ok y k).1
  have F2 := (f_D18 f1).tr f2
  unfold X7_tellVisitor o_vis
  rw [e1, z_bps, c_vis (g_P18 g) h8, Option.bind_some, e2, Option.bind_some, c_isY g tp h2 k2 (by decide), Option.bind_some]
  by_cases c : o_isw y (o_ad n y T) 6 = true
  · rw [if_neg (fun q => o_b1z.mp q c), if_pos c]
    obtain ⟨M3, e3, h3, f3⟩ := c_known g tp (p := pN P) h2 k2 ok1 hp
    have gk := o_known_ok y (n := n) ok1 hp k2
    rw [e3, z_bps]
    by_cases d : (o_known n y (pN P) (o_new P (nI q)) (o_ad n y T)).1 = true
    · rw [if_neg (fun q => o_b1z.mp q d), if_pos d]
      obtain ⟨M4, e4, h4, f4⟩ := c_v33 g tp (p := pN P) h3 gk.1.1 gk.1.2.2.1 (by rw [gk.2.1]; exact hp)
      exact ⟨M4, e4, h4, (F2.tr f3).tr f4⟩
    · rw [if_pos (o_b1z.mpr d), if_neg d, o_b1f d]
      exact ⟨M3, rfl, h3, F2.tr f3⟩
  · rw [if_pos (o_b1z.mpr c), if_neg c]
    obtain ⟨M4, e4, h4, f4⟩ := c_v33 g tp (p := pN P) h2 k2 ok1 hp
    exact ⟨M4, e4, h4, F2.tr f4⟩
theorem c_scr {Γ : Zg} {sz : Nat} (g : g_Ok Γ sz) {n : Nat} {y : Nat → Int32} (tp : o_tp n y) (s : Bool) {M : Zm} {T : Tk} {P : Pk} (h : cY sz n y M T P) (k : o_kk n T) (ok : o_ok P) : ∃ M', X7_tellSecret Γ M (sz + 38) (sz + 18) (o_b1 s) = some (o_b1 (o_scr n y s P T).1, M') ∧ cY sz n y M' (o_scr n y s P T).2.2 (o_scr n y s P T).2.1 ∧ o_F (o_D sz) M M' := by
  obtain ⟨M1, e1, h1, f1⟩ := c_adY g tp h k ok.1
  have k1 := (o_ad_ok y k).1
  have sa : o_cS (sz + 18) (sz + 18) := ⟨by omega, by omega⟩
  unfold X7_tellSecret o_scr
  rw [e1, Option.bind_some, c_nb h1 k1 (b := 10) (by omega) (x := 10) rfl]
  by_cases c : o_nb (o_ad n y T) 10 = true
  · rw [if_neg (fun q => o_b1z.mp q c), if_pos c, h1.2.2.1.2.2.2 (o_nbI.mp c).1, h1.2.2.2.2.1]
    cases s with
    | true =>
      rw [if_neg (by decide)]
      have c2 := h1.2.2.2.s (pS P ||| ((1 : Int32) <<< (nI (kV (o_ad n y T)) &&& 31)))
      have f2 : o_F (o_cS (sz + 18)) M1 (z_i M1 (sz + 18) 3 (pS P ||| ((1 : Int32) <<< (nI (kV (o_ad n y T)) &&& 31)))) := o_F.i sa
      have h2 := h1.pk c2 f2
      obtain ⟨M3, e3, h3, f3⟩ := c_adY g tp h2 k1 ok.1
      refine ⟨M3, ?_, h3, (f1.tr (f_D18 f2)).tr f3⟩
      rw [z_lts, e3, Option.bind_some]
      rfl
    | false =>
      rw [if_pos (by decide)]
      have c2 := h1.2.2.2.s (pS P &&& (((1 : Int32) <<< (nI (kV (o_ad n y T)) &&& 31)) ^^^ (-1)))
      have f2 : o_F (o_cS (sz + 18)) M1 (z_i M1 (sz + 18) 3 (pS P &&& (((1 : Int32) <<< (nI (kV (o_ad n y T)) &&& 31)) ^^^ (-1)))) := o_F.i sa
      have h2 := h1.pk c2 f2
      obtain ⟨M3, e3, h3, f3⟩ := c_adY g tp h2 k1 ok.1
      refine ⟨M3, ?_, h3, (f1.tr (f_D18 f2)).tr f3⟩
      rw [z_lts, e3, Option.bind_some]
      rfl
  · rw [if_pos (o_b1z.mpr c), if_neg c]
    exact ⟨M1, rfl, h1, f1⟩
theorem t_nm : ∀ k, k < 6 → X7_nameOf (nI k) = k := by decide +kernel
def o_kdL (y : Nat → Int32) (T : Tk) : Nat → Nat → Option Nat
  | 0, _ => none
  | r + 1, i => if o_isw y T i = true then some i else o_kdL y T r (i + 1)
theorem o_kdE (y : Nat → Int32) (T : Tk) : o_kdL y T 6 0 = o_kd y T := rfl
def o_itA (n : Nat) (y : Nat → Int32) (P : Pk) (T : Tk) (x : Option Nat) : Gr := match x with
  | none => o_item0 n y P T
  | some k => o_item1 n y P T k
theorem o_full {P : Pk} (h8 : pN P ≤ 8) {M : Zm} {a : Nat} (h : o_C M a P) : X3_isFull M a = 0 ↔ pN P < 8 := by
  have full : ∀ n, n ≤ 8 → ((if nI n < 8 then (0 : Int32) else 1) = 0 ↔ n < 8) := by decide
  unfold X3_isFull
  rw [h.1]
  exact full _ h8
theorem c_itL {Γ : Zg} {sz : Nat} (g : g_Ok Γ sz) {n : Nat} {y : Nat → Int32} (tp : o_tp n y) {M : Zm} {T : Tk} {P : Pk} (h : cY sz n y M T P) (k : o_kk n T) (ok : o_ok P) : ∀ (r f i : Nat), i + r = 6 → r < f → ∃ M', X7_tellItem_P2 Γ f M (sz + 38) (sz + 18) (nI i) = some (o_b1 (o_itA n y P T (o_kdL y T r i)).1, M') ∧ cY sz n y M' (o_itA n y P T (o_kdL y T r i)).2.2 (o_itA n y P T (o_kdL y T r i)).2.1 ∧ o_F (o_D sz) M M'
  | 0, f + 1, i, hi, _ => by
    have : i = 6 := by omega
    subst this
    rw [X7_tellItem_P2, if_pos (by decide), c_isY g tp h k (by decide), Option.bind_some]
    show ∃ M', _ = some (o_b1 (o_item0 n y P T).1, M') ∧ cY sz n y M' (o_item0 n y P T).2.2 (o_item0 n y P T).2.1 ∧ o_F (o_D sz) M M'
    unfold o_item0
    by_cases c : o_isw y T 8 = true
    · rw [if_neg (fun q => o_b1z.mp q c), if_pos c]
      obtain ⟨M', e', h', f'⟩ := c_scr g tp true h k ok
      refine ⟨M', ?_, h', f'⟩
      rw [show (1 : Int32) = o_b1 true from rfl, e', z_bps]
      exact o_b1r M'
    · rw [if_pos (o_b1z.mpr c), if_neg c, c_isY g tp h k (by decide), Option.bind_some]
      by_cases d : o_isw y T 9 = true
      · rw [if_neg (fun q => o_b1z.mp q d), if_pos d]
        obtain ⟨M', e', h', f'⟩ := c_scr g tp false h k ok
        refine ⟨M', ?_, h', f'⟩
        rw [show X7_tellSecret Γ M (sz + 38) (sz + 18) 0 = _ from e', z_bps]
        exact o_b1s M'
      · rw [if_pos (o_b1z.mpr d), if_neg d]
        exact ⟨M, rfl, h, o_F.rf⟩
  | r + 1, f + 1, i, hi, hf => by
    rw [X7_tellItem_P2, if_neg (show ¬ (6 : Int32) ≤ nI i from nI_ge (b := 6) (by omega) (by omega)), t_nm i (by omega), c_isY g tp h k (by omega), Option.bind_some, o_kdL]
    by_cases c : o_isw y T i = true
    · rw [if_neg (fun q => o_b1z.mp q c), if_pos c]
      show ∃ M', _ = some (o_b1 (o_item1 n y P T i).1, M') ∧ cY sz n y M' (o_item1 n y P T i).2.2 (o_item1 n y P T i).2.1 ∧ o_F (o_D sz) M M'
      unfold o_item1
      by_cases d : pN P < 8
      · rw [if_pos ((o_full ok.1 h.2.2.2).mpr d), if_pos d]
        obtain ⟨M', e', h', f'⟩ := c_visT g tp (q := i) (by omega) h k ok d
        refine ⟨M', ?_, h', f'⟩
        rw [e', z_bps]
        exact o_b1s M'
      · rw [if_neg (fun q => d ((o_full ok.1 h.2.2.2).mp q)), if_neg d]
        exact ⟨M, rfl, h, o_F.rf⟩
    · rw [if_pos (o_b1z.mpr c), if_neg c, nI_s]
      exact c_itL g tp h k ok r f (i + 1) (by omega) (by omega)
theorem c_item {Γ : Zg} {sz : Nat} (g : g_Ok Γ sz) {n : Nat} {y : Nat → Int32} (tp : o_tp n y) {M : Zm} {T : Tk} {P : Pk} (h : cY sz n y M T P) (k : o_kk n T) (ok : o_ok P) : ∃ M', X7_tellItem Γ M (sz + 38) (sz + 18) = some (o_b1 (o_item n y P T).1, M') ∧ cY sz n y M' (o_item n y P T).2.2 (o_item n y P T).2.1 ∧ o_F (o_D sz) M M' := c_itL g tp h k ok 6 1000 0 (by omega) (by omega)
