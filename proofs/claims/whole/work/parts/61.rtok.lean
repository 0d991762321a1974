/-! the reference takes a token -/
def o_ya (n : Nat) (y : Nat → Int32) (x : Nat) : Int32 := if n ≤ x then -1 else y x
def o_vr (y : Nat → Int32) : Nat → Nat → Nat → Nat
  | 0, _, v => v
  | r + 1, i, v => if o_dg (y i) = true then o_vr y r (i + 1) (if v ≤ 999 then 10 * v + o_dv (y i) else v) else v
theorem o_vrl {y : Nat → Int32} {n : Nat} (hb : ∀ k, k < n → ∃ q, q < 256 ∧ y k = nI q) : ∀ r i w, i + r ≤ n → w ≤ 9999 → o_vr y r i w ≤ 9999 ∧ min (o_vr y r i w) 1000 = o_vl y r i (min w 1000)
  | 0, _, _, _, h => ⟨h, rfl⟩
  | r + 1, i, w, hi, h => by
    rw [o_vr, o_vl]
    by_cases c : o_dg (y i) = true
    · rw [if_pos c, if_pos c]
      obtain ⟨q, hq, eq⟩ := hb i (by omega)
      have cq := t_dig q hq (by rw [← eq]; exact o_dgI.mp c)
      rw [eq, o_dvI hq]
      by_cases d : w ≤ 999
      · rw [if_pos d]
        have k := o_vrl hb r (i + 1) (10 * w + (q - 48)) (by omega) (by omega)
        rw [show min (10 * min w 1000 + (q - 48)) 1000 = min (10 * w + (q - 48)) 1000 by omega]
        exact k
      · rw [if_neg d]
        have k := o_vrl hb r (i + 1) w (by omega) h
        rw [show min (10 * min w 1000 + (q - 48)) 1000 = min w 1000 by omega]
        exact k
    · rw [if_neg c, if_neg c]
      exact ⟨h, rfl⟩
theorem r_byte {Γ : Zg} {m L : Nat} (hL : z_r Γ m 6 = L) {n : Nat} {y : Nat → Int32} (hn : n ≤ 120) {M : Zm} (h7 : M.1 m 7 = nI n) (hy : ∀ k, k < n → M.1 L k = y k) {x : Nat} (hx : x < 2 ^ 31) : X11_byteAt Γ M m (nI x) = some (o_ya n y x) := by
  unfold X11_byteAt o_ya
  rw [h7, hL]
  by_cases c : n ≤ x
  · rw [if_pos (nI_le c (by omega)), if_pos c]
  · rw [if_neg (nI_ge (by omega) (by omega)), if_neg c, if_pos (z_ixn (by omega) (by decide)), nI_cl (by omega), hy x (by omega)]
def r_K (Γ : Zg) (M : Zm) (l0 : Nat) : Option Zm := z_lt (z_i M l0 13 (M.1 l0 12)) (fun M6 => (X11_byteAt Γ M6 l0 (M6.1 l0 12)).bind (fun r8 => if 0 ≤ r8 then (if (X11_isLetter r8) = 0 then (if (X11_isDigit r8) = 0 then (if r8 = (59 : Int32) then (z_lt (z_i M6 l0 11 (3 : Int32)) (fun M22 => z_lt (z_i M22 l0 14 (0 : Int32)) (fun M24 => X11_nextToken_P101 Γ 1000 M24 l0))) else (z_lt (z_i M6 l0 11 (4 : Int32)) (fun M18 => z_lt (z_i M18 l0 14 (0 : Int32)) (fun M20 => X11_nextToken_P101 Γ 1000 M20 l0)))) else (z_lt (z_i M6 l0 11 (2 : Int32)) (fun M26 => z_lt (z_i M26 l0 14 (0 : Int32)) (fun M28 => X11_nextToken_P101 Γ 1000 M28 l0)))) else (z_lt (z_i M6 l0 11 (1 : Int32)) (fun M30 => z_lt (z_i M30 l0 14 (0 : Int32)) (fun M32 => X11_nextToken_P101 Γ 1000 M32 l0)))) else (z_lt (z_i M6 l0 11 (0 : Int32)) (fun M34 => z_lt (z_i M34 l0 14 (0 : Int32)) (fun M36 => X11_nextToken_P101 Γ 1000 M36 l0)))))
theorem r_P8 (Γ : Zg) (f : Nat) (M : Zm) (m : Nat) : X11_nextToken_P8 Γ (f + 1) M m = (X11_byteAt Γ M m (M.1 m 12)).bind (fun r3 => if r3 = (32 : Int32) then (z_lt (z_i M m 12 ((M.1 m 12) + (1 : Int32))) (fun M38 => X11_nextToken_P8 Γ f M38 m)) else r_K Γ M m) := rfl
theorem r_blL {Γ : Zg} {m L : Nat} (hL : z_r Γ m 6 = L) (hne : L ≠ m) {n : Nat} {y : Nat → Int32} (hn : n ≤ 120) : ∀ (r f i : Nat) (M : Zm), i + r = n → r < f → M.1 m 7 = nI n → (∀ k, k < n → M.1 L k = y k) → M.1 m 12 = nI i → X11_nextToken_P8 Γ f M m = r_K Γ (z_i M m 12 (nI (o_rn y o_bl r i))) m
  | 0, f + 1, i, M, hi, _, h1, hy, h3 => by
    rw [r_P8, h3, r_byte hL hn h1 hy (by omega), Option.bind_some, show o_ya n y i = -1 from if_pos (by omega), if_neg (by decide), o_rn, z_i_id h3]
  | r + 1, f + 1, i, M, hi, hf, h1, hy, h3 => by
    rw [r_P8, h3, r_byte hL hn h1 hy (by omega), Option.bind_some, show o_ya n y i = y i from if_neg (by omega), o_rn]
    by_cases c : y i = 32
    · rw [if_pos c, if_pos (show o_bl (y i) = true from decide_eq_true c), z_lts, nI_s, r_blL (y := y) hL hne hn r f (i + 1) (z_i M m 12 (nI (i + 1))) (by omega) (by omega) (by rw [z_i_of _ _ (by decide)]; exact h1) (fun k hk => by rw [z_i_ne hne]; exact hy k hk) (z_i_at _ _ _ _), z_i_i]
    · rw [if_neg c, if_neg (show ¬ o_bl (y i) = true from fun q => c (of_decide_eq_true q)), z_i_id h3]
theorem x_lt (c : Int32) : X11_isLetter c = X7_isLetter c := rfl
theorem x_dg (c : Int32) : X11_isDigit c = X7_isDigit c := rfl
theorem r_wdL {Γ : Zg} {m L : Nat} (hL : z_r Γ m 6 = L) (hne : L ≠ m) {n : Nat} {y : Nat → Int32} (hn : n ≤ 120) : ∀ (r f i : Nat) (M : Zm), i + r = n → r < f → M.1 m 7 = nI n → (∀ k, k < n → M.1 L k = y k) → M.1 m 11 = 1 → M.1 m 13 = nI i → X11_nextToken_P101 Γ f M m = X11_nextToken_P136 Γ 1000 (z_i M m 13 (nI (o_rn y o_lt r i))) m
  | 0, f + 1, i, M, hi, _, h1, hy, ht, h3 => by
    rw [X11_nextToken_P101, ht, if_pos rfl, h3, r_byte hL hn h1 hy (by omega), Option.bind_some, show o_ya n y i = -1 from if_pos (by omega), if_pos (by decide), o_rn, z_i_id h3]
  | r + 1, f + 1, i, M, hi, hf, h1, hy, ht, h3 => by
    rw [X11_nextToken_P101, ht, if_pos rfl, h3, r_byte hL hn h1 hy (by omega), Option.bind_some, show o_ya n y i = y i from if_neg (by omega), o_rn, x_lt]
    by_cases c : X7_isLetter (y i) = 0
    · rw [if_pos c, if_neg (fun q => o_ltI.mp q c), z_i_id h3]
    · rw [if_neg c, if_pos (o_ltI.mpr c), z_lts, nI_s, r_wdL (y := y) hL hne hn r f (i + 1) (z_i M m 13 (nI (i + 1))) (by omega) (by omega) (by rw [z_i_of _ _ (by decide)]; exact h1) (fun k hk => by rw [z_i_ne hne]; exact hy k hk) (by rw [z_i_of _ _ (by decide)]; exact ht) (z_i_at _ _ _ _), z_i_i]
theorem r_nmL {Γ : Zg} {m L : Nat} (hL : z_r Γ m 6 = L) (hne : L ≠ m) {n : Nat} {y : Nat → Int32} (hn : n ≤ 120) (hb : ∀ k, k < n → ∃ q, q < 256 ∧ y k = nI q) : ∀ (r f i v : Nat) (M : Zm), i + r = n → r < f → v ≤ 9999 → M.1 m 7 = nI n → (∀ k, k < n → M.1 L k = y k) → M.1 m 11 = 2 → M.1 m 13 = nI i → M.1 m 14 = nI v → X11_nextToken_P136 Γ f M m = X11_nextToken_P211 Γ (z_i (z_i M m 14 (nI (o_vr y r i v))) m 13 (nI (o_rn y o_dg r i))) m
  | 0, f + 1, i, v, M, hi, _, hv, h1, hy, ht, h3, h5 => by
    rw [X11_nextToken_P136, ht, if_pos rfl, h3, r_byte hL hn h1 hy (by omega), Option.bind_some, show o_ya n y i = -1 from if_pos (by omega), if_pos (by decide), o_rn, o_vr, z_i_id h5, z_i_id h3]
  | r + 1, f + 1, i, v, M, hi, hf, hv, h1, hy, ht, h3, h5 => by
    rw [X11_nextToken_P136, ht, if_pos rfl, h3, h5, r_byte hL hn h1 hy (by omega), Option.bind_some, Option.bind_some, show o_ya n y i = y i from if_neg (by omega), o_rn, o_vr, x_dg]
    by_cases c : X7_isDigit (y i) = 0
    · rw [if_pos c, if_neg (fun q => o_dgI.mp q c), if_neg (fun q => o_dgI.mp q c), z_i_id h5, z_i_id h3]
    · rw [if_neg c, if_pos (o_dgI.mpr c), if_pos (o_dgI.mpr c), z_lts, z_lts, z_lts, z_lts]
      obtain ⟨q, hq, eq⟩ := hb i (by omega)
      rw [eq] at c
      have cq := t_dig q hq c
      rw [eq, o_10 cq.1, o_dvI hq, z_i_of _ _ (by decide), z_i_of _ _ (by decide), h3, nI_s]
      have K : ∀ w, w ≤ 9999 → X11_nextToken_P136 Γ f (z_i (z_i M m 14 (nI w)) m 13 (nI (i + 1))) m = X11_nextToken_P211 Γ (z_i (z_i M m 14 (nI (o_vr y r (i + 1) w))) m 13 (nI (o_rn y o_dg r (i + 1)))) m := fun w hw => by
        rw [r_nmL (y := y) hL hne hn hb r f (i + 1) w (z_i (z_i M m 14 (nI w)) m 13 (nI (i + 1))) (by omega) (by omega) hw (by rw [z_i_of _ _ (by decide), z_i_of _ _ (by decide)]; exact h1) (fun k hk => by rw [z_i_ne hne, z_i_ne hne]; exact hy k hk) (by rw [z_i_of _ _ (by decide), z_i_of _ _ (by decide)]; exact ht) (z_i_at _ _ _ _) (by rw [z_i_of _ _ (by decide), z_i_at]), z_i_c _ _ (k := 13) (l := 14) (by decide), z_i_i, z_i_i]
      by_cases d : v ≤ 999
      · rw [if_pos (show nI v ≤ (999 : Int32) from nI_le (b := 999) d (by omega)), if_pos d]
        exact K _ (by omega)
      · rw [if_neg (show ¬ nI v ≤ (999 : Int32) from nI_ge (a := 999) (by omega) (by omega)), if_neg d]
        exact K _ hv
def rTk (m : Nat) (M : Zm) (T : Tk) : Prop := M.1 m 11 = nI (kT T) ∧ M.1 m 12 = nI (kS T) ∧ M.1 m 13 = nI (kB T) ∧ (kT T = 2 → ∃ w, w ≤ 9999 ∧ min w 1000 = kV T ∧ M.1 m 14 = nI w)
theorem r_P136n (Γ : Zg) (M : Zm) (m : Nat) (h : ¬ M.1 m 11 = 2) : X11_nextToken_P136 Γ 1000 M m = X11_nextToken_P211 Γ M m := by
  rw [X11_nextToken_P136, if_neg h]
theorem r_P101n (Γ : Zg) (M : Zm) (m : Nat) (h : ¬ M.1 m 11 = 1) : X11_nextToken_P101 Γ 1000 M m = X11_nextToken_P136 Γ 1000 M m := by
  rw [X11_nextToken_P101, if_neg h]
theorem r_P211a (Γ : Zg) (M : Zm) (m : Nat) (h : M.1 m 11 ≤ 2) : X11_nextToken_P211 Γ M m = some M := by
  unfold X11_nextToken_P211
  rw [if_pos h, z_lts, Int32.add_zero, z_i_id rfl]
theorem r_P211b (Γ : Zg) (M : Zm) (m : Nat) (h : ¬ M.1 m 11 ≤ 2) : X11_nextToken_P211 Γ M m = some (z_i M m 13 (M.1 m 13 + 1)) := by
  unfold X11_nextToken_P211
  rw [if_neg h, z_lts]
theorem r_Kt {Γ : Zg} {m L : Nat} (hL : z_r Γ m 6 = L) (hne : L ≠ m) {n : Nat} {y : Nat → Int32} (hn : n ≤ 120) (hb : ∀ k, k < n → ∃ q, q < 256 ∧ y k = nI q) {s : Nat} {M : Zm} (hs : s ≤ n) (h7 : M.1 m 7 = nI n) (hy : ∀ k, k < n → M.1 L k = y k) (h3 : M.1 m 12 = nI s) : ∃ M', r_K Γ M m = some M' ∧ rTk m M' (o_tk2 n y s) ∧ (∀ j, j ≤ 10 ∨ j = 15 → M'.1 m j = M.1 m j) ∧ o_F (o_rS m) M M' := by
  have fa : o_rS m m := rfl
  have h7' : (z_i M m 13 (nI s)).1 m 7 = nI n := by rw [z_i_of _ _ (by decide)]; exact h7
  have hy' : ∀ k, k < n → (z_i M m 13 (nI s)).1 L k = y k := fun k hk => by rw [z_i_ne hne]; exact hy k hk
  unfold r_K o_tk2
  rw [z_lts, h3, z_i_of _ _ (by decide), h3, r_byte hL hn h7' hy' (by omega), Option.bind_some]
  by_cases c : s < n
  · rw [if_pos c, show o_ya n y s = y s from if_neg (by omega), x_lt, x_dg]
    obtain ⟨q, hq, eq⟩ := hb s c
    rw [if_pos (show (0 : Int32) ≤ y s from by rw [eq]; exact nI_pos' (by omega))]
    by_cases d : X7_isLetter (y s) = 0
    · rw [if_pos d, if_neg (fun q => o_ltI.mp q d)]
      by_cases e : X7_isDigit (y s) = 0
      · rw [if_pos e, if_neg (fun q => o_dgI.mp q e)]
        by_cases k : y s = 59
        · rw [if_pos k, if_pos k, z_lts, z_lts, r_P101n _ _ _ (by rw [z_i_of _ _ (by decide), z_i_at]; decide), r_P136n _ _ _ (by rw [z_i_of _ _ (by decide), z_i_at]; decide), r_P211b _ _ _ (by rw [z_i_of _ _ (by decide), z_i_at]; decide), z_i_of _ _ (by decide), z_i_of _ _ (by decide), z_i_at, nI_s]
          refine ⟨_, rfl, ⟨?_, ?_, ?_, fun q => absurd (show (3 : Nat) = 2 from q) (by decide)⟩, fun j hj => ?_, (((o_F.i fa).tr (o_F.i fa)).tr (o_F.i fa)).tr (o_F.i fa)⟩
          · rw [z_i_of _ _ (by decide), z_i_of _ _ (by decide), z_i_at]; rfl
          · rw [z_i_of _ _ (by decide), z_i_of _ _ (by decide), z_i_of _ _ (by decide), z_i_of _ _ (by decide), h3]; rfl
          · rw [z_i_at]; rfl
          · rw [z_i_of _ _ (by omega), z_i_of _ _ (by omega), z_i_of _ _ (by omega), z_i_of _ _ (by omega)]
        · rw [if_neg k, if_neg k, z_lts, z_lts, r_P101n _ _ _ (by rw [z_i_of _ _ (by decide), z_i_at]; decide), r_P136n _ _ _ (by rw [z_i_of _ _ (by decide), z_i_at]; decide), r_P211b _ _ _ (by rw [z_i_of _ _ (by decide), z_i_at]; decide), z_i_of _ _ (by decide), z_i_of _ _ (by decide), z_i_at, nI_s]
          refine ⟨_, rfl, ⟨?_, ?_, ?_, fun q => absurd (show (4 : Nat) = 2 from q) (by decide)⟩, fun j hj => ?_, (((o_F.i fa).tr (o_F.i fa)).tr (o_F.i fa)).tr (o_F.i fa)⟩
          · rw [z_i_of _ _ (by decide), z_i_of _ _ (by decide), z_i_at]; rfl
          · rw [z_i_of _ _ (by decide), z_i_of _ _ (by decide), z_i_of _ _ (by decide), z_i_of _ _ (by decide), h3]; rfl
          · rw [z_i_at]; rfl
          · rw [z_i_of _ _ (by omega), z_i_of _ _ (by omega), z_i_of _ _ (by omega), z_i_of _ _ (by omega)]
      · have w := o_vrl hb (n - s) s 0 (by omega) (by omega)
        rw [if_neg e, if_pos (o_dgI.mpr e), z_lts, z_lts, r_P101n _ _ _ (by rw [z_i_of _ _ (by decide), z_i_at]; decide), r_nmL (y := y) hL hne hn hb (n - s) 1000 s 0 (z_i (z_i (z_i M m 13 (nI s)) m 11 2) m 14 0) (by omega) (by omega) (by omega) (by rw [z_i_of _ _ (by decide), z_i_of _ _ (by decide), z_i_of _ _ (by decide)]; exact h7) (fun k hk => by rw [z_i_ne hne, z_i_ne hne, z_i_ne hne]; exact hy k hk) (by rw [z_i_of _ _ (by decide), z_i_at]) (by rw [z_i_of _ _ (by decide), z_i_of _ _ (by decide), z_i_at]) (by rw [z_i_at]; rfl), r_P211a _ _ _ (by rw [z_i_of _ _ (by decide), z_i_of _ _ (by decide), z_i_of _ _ (by decide), z_i_at]; decide)]
        refine ⟨_, rfl, ⟨?_, ?_, ?_, fun _ => ⟨o_vr y (n - s) s 0, w.1, w.2, ?_⟩⟩, fun j hj => ?_, ((((o_F.i fa).tr (o_F.i fa)).tr (o_F.i fa)).tr (o_F.i fa)).tr (o_F.i fa)⟩
        · rw [z_i_of _ _ (by decide), z_i_of _ _ (by decide), z_i_of _ _ (by decide), z_i_at]; rfl
        · rw [z_i_of _ _ (by decide), z_i_of _ _ (by decide), z_i_of _ _ (by decide), z_i_of _ _ (by decide), z_i_of _ _ (by decide), h3]; rfl
        · rw [z_i_at]; rfl
        · rw [z_i_of _ _ (by decide), z_i_at]
        · rw [z_i_of _ _ (by omega), z_i_of _ _ (by omega), z_i_of _ _ (by omega), z_i_of _ _ (by omega), z_i_of _ _ (by omega)]
    · rw [if_neg d, if_pos (o_ltI.mpr d), z_lts, z_lts, r_wdL (y := y) hL hne hn (n - s) 1000 s (z_i (z_i (z_i M m 13 (nI s)) m 11 1) m 14 0) (by omega) (by omega) (by rw [z_i_of _ _ (by decide), z_i_of _ _ (by decide), z_i_of _ _ (by decide)]; exact h7) (fun k hk => by rw [z_i_ne hne, z_i_ne hne, z_i_ne hne]; exact hy k hk) (by rw [z_i_of _ _ (by decide), z_i_at]) (by rw [z_i_of _ _ (by decide), z_i_of _ _ (by decide), z_i_at]), r_P136n _ _ _ (by rw [z_i_of _ _ (by decide), z_i_of _ _ (by decide), z_i_at]; decide), r_P211a _ _ _ (by rw [z_i_of _ _ (by decide), z_i_of _ _ (by decide), z_i_at]; decide)]
      refine ⟨_, rfl, ⟨?_, ?_, ?_, fun q => absurd (show (1 : Nat) = 2 from q) (by decide)⟩, fun j hj => ?_, (((o_F.i fa).tr (o_F.i fa)).tr (o_F.i fa)).tr (o_F.i fa)⟩
      · rw [z_i_of _ _ (by decide), z_i_of _ _ (by decide), z_i_at]; rfl
      · rw [z_i_of _ _ (by decide), z_i_of _ _ (by decide), z_i_of _ _ (by decide), z_i_of _ _ (by decide), h3]; rfl
      · rw [z_i_at]; rfl
      · rw [z_i_of _ _ (by omega), z_i_of _ _ (by omega), z_i_of _ _ (by omega), z_i_of _ _ (by omega)]
  · rw [if_neg c, show o_ya n y s = -1 from if_pos (by omega), if_neg (by decide), z_lts, z_lts, r_P101n _ _ _ (by rw [z_i_of _ _ (by decide), z_i_at]; decide), r_P136n _ _ _ (by rw [z_i_of _ _ (by decide), z_i_at]; decide), r_P211a _ _ _ (by rw [z_i_of _ _ (by decide), z_i_at]; decide)]
    refine ⟨_, rfl, ⟨?_, ?_, ?_, fun q => absurd (show (0 : Nat) = 2 from q) (by decide)⟩, fun j hj => ?_, ((o_F.i fa).tr (o_F.i fa)).tr (o_F.i fa)⟩
    · rw [z_i_of _ _ (by decide), z_i_at]; rfl
    · rw [z_i_of _ _ (by decide), z_i_of _ _ (by decide), z_i_of _ _ (by decide), h3]; rfl
    · rw [z_i_of _ _ (by decide), z_i_of _ _ (by decide), z_i_at]; rfl
    · rw [z_i_of _ _ (by omega), z_i_of _ _ (by omega), z_i_of _ _ (by omega)]
theorem r_adv {Γ : Zg} {m L : Nat} (hL : z_r Γ m 6 = L) (hne : L ≠ m) {n : Nat} {y : Nat → Int32} (hn : n ≤ 120) (hb : ∀ k, k < n → ∃ q, q < 256 ∧ y k = nI q) {i : Nat} {M : Zm} (hi : i ≤ n) (h7 : M.1 m 7 = nI n) (hy : ∀ k, k < n → M.1 L k = y k) (h4 : M.1 m 13 = nI i) : ∃ M', X11_nextToken Γ M m = some M' ∧ rTk m M' (o_tk n y i) ∧ (∀ j, j ≤ 10 ∨ j = 15 → M'.1 m j = M.1 m j) ∧ o_F (o_rS m) M M' := by
  have fa : o_rS m m := rfl
  have h7' : (z_i M m 12 (nI (o_rn y o_bl (n - i) i))).1 m 7 = nI n := by rw [z_i_of _ _ (by decide)]; exact h7
  have le := o_rn_le y o_bl (n - i) i
  obtain ⟨M', e', c', j', f'⟩ := r_Kt (y := y) hL hne hn hb (s := o_rn y o_bl (n - i) i) (M := z_i M m 12 (nI (o_rn y o_bl (n - i) i))) (by omega) h7' (fun k hk => by rw [z_i_ne hne]; exact hy k hk) (z_i_at _ _ _ _)
  refine ⟨M', ?_, c', fun j hj => by rw [j' j hj, z_i_of _ _ (by omega)], (o_F.i fa).tr f'⟩
  unfold X11_nextToken
  rw [z_lts, h4, r_blL (y := y) hL hne hn (n - i) 1000 i (z_i M m 12 (nI i)) (by omega) (by omega) (by rw [z_i_of _ _ (by decide)]; exact h7) (fun k hk => by rw [z_i_ne hne]; exact hy k hk) (z_i_at _ _ _ _), z_i_i]
  exact e'
