/-! the grammar, abstract -/
def o_tp (n : Nat) (y : Nat → Int32) : Prop := n ≤ 120 ∧ ∀ k, k < n → ∃ q, q < 256 ∧ y k = nI q
def o_ad (n : Nat) (y : Nat → Int32) (T : Tk) : Tk := o_tk n y (kB T)
def o_kk (n : Nat) (T : Tk) : Prop := kS T ≤ kB T ∧ kB T ≤ n ∧ kT T ≤ 4 ∧ (kT T = 0 ↔ kS T = n) ∧ (kT T = 3 → kB T = kS T + 1) ∧ kV T ≤ 1000
theorem o_ad_ok (y : Nat → Int32) {n : Nat} {T : Tk} (h : o_kk n T) : o_kk n (o_ad n y T) ∧ kB T ≤ kS (o_ad n y T) := by
  have q := o_tk_ok y (n := n) (i := kB T) h.2.1
  exact ⟨q.2, q.1⟩
abbrev Gr : Type := Bool × Pk × Tk
def o_nb (T : Tk) (b : Nat) : Bool := decide (kT T = 2 ∧ kV T < b)
theorem o_nbI {T : Tk} {b : Nat} : o_nb T b = true ↔ (kT T = 2 ∧ kV T < b) := decide_eq_true_iff
def o_kb (P : Pk) (p v : Nat) : Pk := p_v P p 1 (pV P p 1 ||| ((1 : Int32) <<< (nI v &&& 31)))
def o_kn (n : Nat) (y : Nat → Int32) (p : Nat) : Nat → Pk → Tk → Pk × Tk
  | 0, P, T => (P, T)
  | r + 1, P, T => if o_nb T 10 = true then o_kn n y p r (o_kb P p (kV T)) (o_ad n y T) else (P, T)
def o_known (n : Nat) (y : Nat → Int32) (p : Nat) (P : Pk) (T : Tk) : Gr := if o_nb (o_ad n y T) 10 = true then (true, o_kn n y p 4 P (o_ad n y T)) else (false, P, o_ad n y T)
def o_sd (P : Pk) (p v : Nat) : Pk := p_v (p_v P p 3 (nI v)) p 4 0
def o_seat (n : Nat) (y : Nat → Int32) (p : Nat) (P : Pk) (T : Tk) : Gr := if o_nb (o_ad n y T) 2 = true ∧ o_hd P (nI (kV (o_ad n y T))) = none then (true, o_sd P p (kV (o_ad n y T)), o_ad n y (o_ad n y T)) else (false, P, o_ad n y T)
def o_v33 (n : Nat) (y : Nat → Int32) (p : Nat) (P : Pk) (T : Tk) : Gr := if o_isw y T 7 = true then o_seat n y p P T else (true, P, T)
def o_vis (n : Nat) (y : Nat → Int32) (k : Int32) (P : Pk) (T : Tk) : Gr := if o_isw y (o_ad n y T) 6 = true then (if (o_known n y (pN P) (o_new P k) (o_ad n y T)).1 = true then o_v33 n y (pN P) (o_known n y (pN P) (o_new P k) (o_ad n y T)).2.1 (o_known n y (pN P) (o_new P k) (o_ad n y T)).2.2 else o_known n y (pN P) (o_new P k) (o_ad n y T)) else o_v33 n y (pN P) (o_new P k) (o_ad n y T)
def o_bt (P : Pk) (v : Nat) (s : Bool) : Pk := p_s P (if s = true then pS P ||| ((1 : Int32) <<< (nI v &&& 31)) else pS P &&& (((1 : Int32) <<< (nI v &&& 31)) ^^^ (-1)))
def o_scr (n : Nat) (y : Nat → Int32) (s : Bool) (P : Pk) (T : Tk) : Gr := if o_nb (o_ad n y T) 10 = true then (true, o_bt P (kV (o_ad n y T)) s, o_ad n y (o_ad n y T)) else (false, P, o_ad n y T)
def o_item0 (n : Nat) (y : Nat → Int32) (P : Pk) (T : Tk) : Gr := if o_isw y T 8 = true then o_scr n y true P T else if o_isw y T 9 = true then o_scr n y false P T else (false, P, T)
def o_item1 (n : Nat) (y : Nat → Int32) (P : Pk) (T : Tk) (k : Nat) : Gr := if pN P < 8 then o_vis n y (nI k) P T else (false, P, T)
def o_item (n : Nat) (y : Nat → Int32) (P : Pk) (T : Tk) : Gr := match o_kd y T with
  | none => o_item0 n y P T
  | some k => o_item1 n y P T k
def o_go (n : Nat) (P : Pk) (T : Tk) (R : Gr) : Prop := o_kk n R.2.2 ∧ kS T ≤ kS R.2.2 ∧ o_ok R.2.1 ∧ pH R.2.1 = pH P
theorem o_kb_ok {P : Pk} (ok : o_ok P) {p v : Nat} (hp : p < pN P) (hv : v < 10) : o_ok (o_kb P p v) := by
  obtain ⟨q, hq, e⟩ := (ok.2.2.2.1 p hp).2.1
  refine o_ok.v ok (Or.inl ⟨rfl, q ||| 2 ^ v, o_or_lt hq (o_bitlt v hv), ?_⟩)
  rw [e, o_bit v hv, o_orI]
theorem o_kn_ok (y : Nat → Int32) {n p : Nat} : ∀ (r : Nat) {P : Pk} {T : Tk}, o_ok P → p < pN P → o_kk n T → o_ok (o_kn n y p r P T).1 ∧ pN (o_kn n y p r P T).1 = pN P ∧ pH (o_kn n y p r P T).1 = pH P ∧ o_kk n (o_kn n y p r P T).2 ∧ kS T ≤ kS (o_kn n y p r P T).2 ∧ pV (o_kn n y p r P T).1 p 4 = pV P p 4
  | 0, P, T, ok, hp, k => ⟨ok, rfl, rfl, k, Nat.le_refl _, rfl⟩
  | r + 1, P, T, ok, hp, k => by
    rw [o_kn]
    by_cases c : o_nb T 10 = true
    · rw [if_pos c]
      have a := o_ad_ok y k
      have h := o_kn_ok y (n := n) (p := p) r (P := o_kb P p (kV T)) (T := o_ad n y T) (o_kb_ok ok hp (o_nbI.mp c).2) hp a.1
      refine ⟨h.1, h.2.1, h.2.2.1, h.2.2.2.1, ?_, ?_⟩
      · have := h.2.2.2.2.1
        have := k.1
        omega
      · rw [h.2.2.2.2.2]
        show pV (p_v P p 1 _) p 4 = _
        rw [pV_v, if_neg (by omega)]
    · rw [if_neg c]
      exact ⟨ok, rfl, rfl, k, Nat.le_refl _, rfl⟩
theorem o_known_ok (y : Nat → Int32) {n p : Nat} {P : Pk} {T : Tk} (ok : o_ok P) (hp : p < pN P) (k : o_kk n T) : o_go n P T (o_known n y p P T) ∧ pN (o_known n y p P T).2.1 = pN P ∧ pV (o_known n y p P T).2.1 p 4 = pV P p 4 := by
  have a := o_ad_ok y k
  have k1 := k.1
  unfold o_known
  by_cases c : o_nb (o_ad n y T) 10 = true
  · rw [if_pos c]
    have h := o_kn_ok y (n := n) (p := p) 4 ok hp a.1
    exact ⟨⟨h.2.2.2.1, by have := h.2.2.2.2.1; show kS T ≤ kS (o_kn n y p 4 P (o_ad n y T)).2; omega, h.1, h.2.2.1⟩, h.2.1, h.2.2.2.2.2⟩
  · rw [if_neg c]
    exact ⟨⟨a.1, by show kS T ≤ kS (o_ad n y T); omega, ok, rfl⟩, rfl, rfl⟩
theorem o_sd_ok {P : Pk} (ok : o_ok P) {p v : Nat} (hv : v < 2) (h : o_hd P (nI v) = none) : o_ok (o_sd P p v) := by
  refine o_ok.v (o_ok.seat ok ?_ (Or.inr (fun j hj e => absurd e (o_hd_none h hj)))) (Or.inr (Or.inr (Or.inl rfl)))
  have : v = 0 ∨ v = 1 := by omega
  rcases this with rfl | rfl
  · exact Or.inr (Or.inl rfl)
  · exact Or.inr (Or.inr rfl)
theorem o_seat_ok (y : Nat → Int32) {n p : Nat} {P : Pk} {T : Tk} (ok : o_ok P) (k : o_kk n T) : o_go n P T (o_seat n y p P T) := by
  have a := o_ad_ok y k
  have b := o_ad_ok y a.1
  have k1 := k.1
  have k2 := a.1.1
  unfold o_seat
  by_cases c : o_nb (o_ad n y T) 2 = true ∧ o_hd P (nI (kV (o_ad n y T))) = none
  · rw [if_pos c]
    exact ⟨b.1, by show kS T ≤ kS (o_ad n y (o_ad n y T)); omega, o_sd_ok ok (o_nbI.mp c.1).2 c.2, rfl⟩
  · rw [if_neg c]
    exact ⟨a.1, by show kS T ≤ kS (o_ad n y T); omega, ok, rfl⟩
theorem o_v33_ok (y : Nat → Int32) {n p : Nat} {P : Pk} {T : Tk} (ok : o_ok P) (k : o_kk n T) : o_go n P T (o_v33 n y p P T) := by
  unfold o_v33
  by_cases c : o_isw y T 7 = true
  · rw [if_pos c]; exact o_seat_ok y ok k
  · rw [if_neg c]; exact ⟨k, Nat.le_refl _, ok, rfl⟩
theorem o_vis_ok (y : Nat → Int32) {n q : Nat} {P : Pk} {T : Tk} (ok : o_ok P) (h8 : pN P < 8) (hq : q < 6) (k : o_kk n T) : o_go n P T (o_vis n y (nI q) P T) := by
  have a := o_ad_ok y k
  have k1 := k.1
  have ok1 := o_new_ok ok h8 hq
  have hp : pN P < pN (o_new P (nI q)) := Nat.lt_succ_self _
  unfold o_vis
  have g := (o_known_ok y (n := n) ok1 hp a.1).1
  by_cases c : o_isw y (o_ad n y T) 6 = true
  · rw [if_pos c]
    generalize o_known n y (pN P) (o_new P (nI q)) (o_ad n y T) = R at g
    by_cases d : R.1 = true
    · rw [if_pos d]
      have h := o_v33_ok y (n := n) (p := pN P) g.2.2.1 g.1
      refine ⟨h.1, ?_, h.2.2.1, h.2.2.2.trans g.2.2.2⟩
      have := h.2.1
      have := g.2.1
      omega
    · rw [if_neg d]
      refine ⟨g.1, ?_, g.2.2.1, g.2.2.2⟩
      have := g.2.1
      omega
  · rw [if_neg c]
    have h := o_v33_ok y (n := n) (p := pN P) ok1 a.1
    refine ⟨h.1, ?_, h.2.2.1, h.2.2.2⟩
    have := h.2.1
    omega
theorem o_bt_ok {P : Pk} (ok : o_ok P) {v : Nat} (hv : v < 10) (s : Bool) : o_ok (o_bt P v s) := by
  obtain ⟨q, hq, e⟩ := ok.2.1
  unfold o_bt
  rw [e]
  cases s with
  | true =>
    rw [if_pos rfl, o_bit v hv, o_orI]
    exact ok.s (o_or_lt hq (o_bitlt v hv))
  | false =>
    rw [if_neg (by decide)]
    obtain ⟨t, ht, et⟩ := o_andle (a := q) (by omega) (((1 : Int32) <<< (nI v &&& 31)) ^^^ (-1))
    rw [et]
    exact ok.s (by omega)
theorem o_scr_ok (y : Nat → Int32) {n : Nat} (s : Bool) {P : Pk} {T : Tk} (ok : o_ok P) (k : o_kk n T) : o_go n P T (o_scr n y s P T) := by
  have a := o_ad_ok y k
  have b := o_ad_ok y a.1
  have k1 := k.1
  have k2 := a.1.1
  unfold o_scr
  by_cases c : o_nb (o_ad n y T) 10 = true
  · rw [if_pos c]
    exact ⟨b.1, by show kS T ≤ kS (o_ad n y (o_ad n y T)); omega, o_bt_ok ok (o_nbI.mp c).2 s, rfl⟩
  · rw [if_neg c]
    exact ⟨a.1, by show kS T ≤ kS (o_ad n y T); omega, ok, rfl⟩
theorem o_kd_lt {y : Nat → Int32} {T : Tk} {k : Nat} (h : o_kd y T = some k) : k < 6 := by
  unfold o_kd at h
  split at h
  · cases h; decide
  · split at h
    · cases h; decide
    · split at h
      · cases h; decide
      · split at h
        · cases h; decide
        · split at h
          · cases h; decide
          · split at h
            · cases h; decide
            · cases h
theorem o_item0_ok (y : Nat → Int32) {n : Nat} {P : Pk} {T : Tk} (ok : o_ok P) (k : o_kk n T) : o_go n P T (o_item0 n y P T) := by
  unfold o_item0
  split
  · exact o_scr_ok y true ok k
  · split
    · exact o_scr_ok y false ok k
    · exact ⟨k, Nat.le_refl _, ok, rfl⟩
theorem o_item1_ok (y : Nat → Int32) {n q : Nat} {P : Pk} {T : Tk} (ok : o_ok P) (hq : q < 6) (k : o_kk n T) : o_go n P T (o_item1 n y P T q) := by
  unfold o_item1
  by_cases c : pN P < 8
  · rw [if_pos c]; exact o_vis_ok y ok c hq k
  · rw [if_neg c]; exact ⟨k, Nat.le_refl _, ok, rfl⟩
theorem o_itemE {n : Nat} {y : Nat → Int32} {P : Pk} {T : Tk} : (o_kd y T = none → o_item n y P T = o_item0 n y P T) ∧ ∀ k, o_kd y T = some k → o_item n y P T = o_item1 n y P T k := by
  unfold o_item
  exact ⟨fun h => by rw [h], fun k h => by rw [h]⟩
theorem o_item_ok (y : Nat → Int32) {n : Nat} {P : Pk} {T : Tk} (ok : o_ok P) (k : o_kk n T) : o_go n P T (o_item n y P T) := by
  cases h : o_kd y T with
  | none => rw [o_itemE.1 h]; exact o_item0_ok y ok k
  | some q => rw [o_itemE.2 q h]; exact o_item1_ok y ok (o_kd_lt h) k
