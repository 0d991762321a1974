/-! the text of a park: tokens; the class takes one -/
abbrev Tk : Type := Nat × Nat × Nat × Nat
def kT (T : Tk) : Nat := T.1
def kS (T : Tk) : Nat := T.2.1
def kB (T : Tk) : Nat := T.2.2.1
def kV (T : Tk) : Nat := T.2.2.2
def o_rn (y : Nat → Int32) (p : Int32 → Bool) : Nat → Nat → Nat
  | 0, i => i
  | r + 1, i => if p (y i) = true then o_rn y p r (i + 1) else i
def o_bl (c : Int32) : Bool := decide (c = 32)
def o_lt (c : Int32) : Bool := decide (¬ X7_isLetter c = 0)
def o_dg (c : Int32) : Bool := decide (¬ X7_isDigit c = 0)
def o_dv (c : Int32) : Nat := c.toNatClampNeg - 48
def o_vl (y : Nat → Int32) : Nat → Nat → Nat → Nat
  | 0, _, v => v
  | r + 1, i, v => if o_dg (y i) = true then o_vl y r (i + 1) (min (10 * v + o_dv (y i)) 1000) else v
def o_tk2 (n : Nat) (y : Nat → Int32) (s : Nat) : Tk := if s < n then (if o_lt (y s) = true then (1, s, o_rn y o_lt (n - s) s, 0) else if o_dg (y s) = true then (2, s, o_rn y o_dg (n - s) s, o_vl y (n - s) s 0) else if y s = 59 then (3, s, s + 1, 0) else (4, s, s + 1, 0)) else (0, s, s, 0)
def o_tk (n : Nat) (y : Nat → Int32) (i : Nat) : Tk := o_tk2 n y (o_rn y o_bl (n - i) i)
theorem o_rn_le (y : Nat → Int32) (p : Int32 → Bool) : ∀ r i, i ≤ o_rn y p r i ∧ o_rn y p r i ≤ i + r
  | 0, i => ⟨Nat.le_refl _, Nat.le_refl _⟩
  | r + 1, i => by
    rw [o_rn]
    split
    · have := o_rn_le y p r (i + 1)
      omega
    · omega
theorem o_vl_le (y : Nat → Int32) : ∀ r i v, v ≤ 1000 → o_vl y r i v ≤ 1000
  | 0, _, _, h => h
  | r + 1, i, v, h => by
    rw [o_vl]
    split
    · exact o_vl_le y r (i + 1) _ (by omega)
    · exact h
def o_kok (n i : Nat) (T : Tk) : Prop := i ≤ kS T ∧ kS T ≤ kB T ∧ kB T ≤ n ∧ kT T ≤ 4 ∧ (kT T = 0 ↔ kS T = n) ∧ (kT T = 3 → kB T = kS T + 1) ∧ kV T ≤ 1000
theorem o_tk_ok (y : Nat → Int32) {n i : Nat} (hi : i ≤ n) : o_kok n i (o_tk n y i) := by
  have h1 := o_rn_le y o_bl (n - i) i
  unfold o_tk o_tk2
  generalize o_rn y o_bl (n - i) i = s at h1
  by_cases c : s < n
  · rw [if_pos c]
    by_cases d : o_lt (y s) = true
    · rw [if_pos d]
      have h2 := o_rn_le y o_lt (n - s) s
      show i ≤ s ∧ s ≤ o_rn y o_lt (n - s) s ∧ o_rn y o_lt (n - s) s ≤ n ∧ 1 ≤ 4 ∧ (1 = 0 ↔ s = n) ∧ (1 = 3 → o_rn y o_lt (n - s) s = s + 1) ∧ 0 ≤ 1000
      omega
    · rw [if_neg d]
      by_cases e : o_dg (y s) = true
      · rw [if_pos e]
        have h2 := o_rn_le y o_dg (n - s) s
        have h3 := o_vl_le y (n - s) s 0 (by omega)
        show i ≤ s ∧ s ≤ o_rn y o_dg (n - s) s ∧ o_rn y o_dg (n - s) s ≤ n ∧ 2 ≤ 4 ∧ (2 = 0 ↔ s = n) ∧ (2 = 3 → o_rn y o_dg (n - s) s = s + 1) ∧ o_vl y (n - s) s 0 ≤ 1000
        omega
      · rw [if_neg e]
        by_cases k : y s = 59
        · rw [if_pos k]
          show i ≤ s ∧ s ≤ s + 1 ∧ s + 1 ≤ n ∧ 3 ≤ 4 ∧ (3 = 0 ↔ s = n) ∧ (3 = 3 → s + 1 = s + 1) ∧ 0 ≤ 1000
          omega
        · rw [if_neg k]
          show i ≤ s ∧ s ≤ s + 1 ∧ s + 1 ≤ n ∧ 4 ≤ 4 ∧ (4 = 0 ↔ s = n) ∧ (4 = 3 → s + 1 = s + 1) ∧ 0 ≤ 1000
          omega
  · rw [if_neg c]
    show i ≤ s ∧ s ≤ s ∧ s ≤ n ∧ 0 ≤ 4 ∧ (0 = 0 ↔ s = n) ∧ (0 = 3 → s = s + 1) ∧ 0 ≤ 1000
    omega
theorem z_i_i (M : Zm) (a k : Nat) (x z : Int32) : z_i (z_i M a k x) a k z = z_i M a k z := by
  refine Prod.ext (funext fun b => funext fun l => ?_) rfl
  rw [z_i_rd, z_i_rd, z_i_rd]
  by_cases c : b = a ∧ l = k
  · rw [if_pos c, if_pos c]
  · rw [if_neg c, if_neg c, if_neg c]
theorem z_i_c (M : Zm) (a : Nat) {k l : Nat} (h : k ≠ l) (x z : Int32) : z_i (z_i M a k x) a l z = z_i (z_i M a l z) a k x := by
  refine Prod.ext (funext fun b => funext fun j => ?_) rfl
  rw [z_i_rd, z_i_rd, z_i_rd, z_i_rd]
  by_cases c : b = a ∧ j = l
  · rw [if_pos c, if_neg (by omega), if_pos c]
  · rw [if_neg c]
    by_cases d : b = a ∧ j = k
    · rw [if_pos d, if_pos d]
    · rw [if_neg d, if_neg d, if_neg c]
theorem z_i_id {M : Zm} {a k : Nat} {x : Int32} (h : M.1 a k = x) : z_i M a k x = M := by
  refine Prod.ext (funext fun b => funext fun l => ?_) rfl
  rw [z_i_rd]
  by_cases c : b = a ∧ l = k
  · rw [if_pos c, c.1, c.2, h]
  · rw [if_neg c]
theorem z_i_at (M : Zm) (a k : Nat) (x : Int32) : (z_i M a k x).1 a k = x := by rw [z_i_rd, if_pos ⟨rfl, rfl⟩]
theorem z_i_of (M : Zm) (a : Nat) {k j : Nat} (h : j ≠ k) (x : Int32) : (z_i M a k x).1 a j = M.1 a j := by rw [z_i_rd, if_neg (fun q => h q.2)]
theorem c_blL {Γ : Zg} {a L : Nat} (hL : z_r Γ a 0 = L) (hne : L ≠ a) {n : Nat} {y : Nat → Int32} (hn : n ≤ 120) : ∀ (r f i : Nat) (M : Zm), i + r = n → r < f → M.1 a 1 = nI n → (∀ k, k < n → M.1 L k = y k) → M.1 a 3 = nI i → X7_advance_P8 Γ f M a = X7_advance_P46 Γ (z_i M a 3 (nI (o_rn y o_bl r i))) a
  | 0, f + 1, i, M, hi, _, h1, hy, h3 => by
    rw [X7_advance_P8, h1, h3, if_pos (nI_le (by omega) (by omega)), o_rn, z_i_id h3]
  | r + 1, f + 1, i, M, hi, hf, h1, hy, h3 => by
    rw [X7_advance_P8, h1, h3, if_neg (nI_ge (by omega) (by omega)), if_pos (z_ixn (by omega) (by decide)), nI_cl (by omega), hL, hy i (by omega), o_rn]
    by_cases c : y i = 32
    · rw [if_pos c, if_pos (show o_bl (y i) = true from decide_eq_true c), z_lts, nI_s, c_blL (y := y) hL hne hn r f (i + 1) (z_i M a 3 (nI (i + 1))) (by omega) (by omega) (by rw [z_i_of _ _ (by decide)]; exact h1) (fun k hk => by rw [z_i_ne hne]; exact hy k hk) (z_i_at _ _ _ _), z_i_i]
    · rw [if_neg c, if_neg (show ¬ o_bl (y i) = true from fun q => c (of_decide_eq_true q)), z_i_id h3]
theorem o_ltI {c : Int32} : o_lt c = true ↔ ¬ X7_isLetter c = 0 := decide_eq_true_iff
theorem o_dgI {c : Int32} : o_dg c = true ↔ ¬ X7_isDigit c = 0 := decide_eq_true_iff
theorem c_wdL {Γ : Zg} {a L : Nat} (hL : z_r Γ a 0 = L) (hne : L ≠ a) {n : Nat} {y : Nat → Int32} (hn : n ≤ 120) : ∀ (r f i : Nat) (M : Zm), i + r = n → r < f → M.1 a 1 = nI n → (∀ k, k < n → M.1 L k = y k) → M.1 a 4 = nI i → X7_takeWord_P5 Γ f M a = some (z_i M a 4 (nI (o_rn y o_lt r i)))
  | 0, f + 1, i, M, hi, _, h1, hy, h3 => by
    rw [X7_takeWord_P5, h1, h3, if_pos (nI_le (by omega) (by omega)), o_rn, z_i_id h3]
  | r + 1, f + 1, i, M, hi, hf, h1, hy, h3 => by
    rw [X7_takeWord_P5, h1, h3, if_neg (nI_ge (by omega) (by omega)), if_pos (z_ixn (by omega) (by decide)), nI_cl (by omega), hL, hy i (by omega), o_rn]
    by_cases c : X7_isLetter (y i) = 0
    · rw [if_pos c, if_neg (fun q => o_ltI.mp q c), z_i_id h3]
    · rw [if_neg c, if_pos (o_ltI.mpr c), z_lts, nI_s, c_wdL (y := y) hL hne hn r f (i + 1) (z_i M a 4 (nI (i + 1))) (by omega) (by omega) (by rw [z_i_of _ _ (by decide)]; exact h1) (fun k hk => by rw [z_i_ne hne]; exact hy k hk) (z_i_at _ _ _ _), z_i_i]
theorem t_dig : ∀ q, q < 256 → ¬ X7_isDigit (nI q) = 0 → 48 ≤ q ∧ q ≤ 57 := by decide +kernel
theorem o_dvI {q : Nat} (h : q < 256) : o_dv (nI q) = q - 48 := by
  unfold o_dv
  rw [nI_cl (by omega)]
theorem o_10 {v q : Nat} (h : 48 ≤ q) : (10 : Int32) * nI v + nI q - 48 = nI (10 * v + (q - 48)) := by
  rw [show (10 : Int32) = nI 10 from rfl, show nI 10 * nI v = nI (10 * v) from (Int32.ofNat_mul 10 v).symm, nI_add, show (48 : Int32) = nI 48 from rfl, o_subN (by omega), show 10 * v + q - 48 = 10 * v + (q - 48) by omega]
theorem c_nmL {Γ : Zg} {a L : Nat} (hL : z_r Γ a 0 = L) (hne : L ≠ a) {n : Nat} {y : Nat → Int32} (hn : n ≤ 120) (hb : ∀ k, k < n → ∃ q, q < 256 ∧ y k = nI q) : ∀ (r f i v : Nat) (M : Zm), i + r = n → r < f → v ≤ 1000 → M.1 a 1 = nI n → (∀ k, k < n → M.1 L k = y k) → M.1 a 4 = nI i → M.1 a 5 = nI v → X7_takeNumber_P10 Γ f M a = some (z_i (z_i M a 5 (nI (o_vl y r i v))) a 4 (nI (o_rn y o_dg r i)))
  | 0, f + 1, i, v, M, hi, _, hv, h1, hy, h3, h5 => by
    rw [X7_takeNumber_P10, h1, h3, if_pos (nI_le (by omega) (by omega)), o_rn, o_vl, z_i_id h5, z_i_id h3]
  | r + 1, f + 1, i, v, M, hi, hf, hv, h1, hy, h3, h5 => by
    rw [X7_takeNumber_P10, h1, h3, h5, if_neg (nI_ge (by omega) (by omega)), if_pos (z_ixn (by omega) (by decide)), if_pos (z_ixn (by omega) (by decide)), nI_cl (by omega), hL, hy i (by omega), o_rn, o_vl]
    by_cases c : X7_isDigit (y i) = 0
    · rw [if_pos c, if_neg (fun q => o_dgI.mp q c), if_neg (fun q => o_dgI.mp q c), z_i_id h5, z_i_id h3]
    · rw [if_neg c, if_pos (o_dgI.mpr c), if_pos (o_dgI.mpr c), z_lts, z_lts]
      obtain ⟨q, hq, eq⟩ := hb i (by omega)
      rw [eq] at c
      have cq := t_dig q hq c
      rw [eq, o_10 cq.1, o_dvI hq]
      have em : (if (1000 : Int32) < nI (10 * v + (q - 48)) then (1000 : Int32) else nI (10 * v + (q - 48))) = nI (min (10 * v + (q - 48)) 1000) := by
        by_cases d : 1000 < 10 * v + (q - 48)
        · rw [if_pos (show (1000 : Int32) < _ from nI_lt (a := 1000) d (by omega)), Nat.min_eq_right (by omega)]; rfl
        · rw [if_neg (show ¬ (1000 : Int32) < nI (10 * v + (q - 48)) from nI_nlt (a := 1000) (by omega) (by omega)), Nat.min_eq_left (by omega)]
      rw [em, z_i_of _ _ (by decide), h3, nI_s, c_nmL (y := y) hL hne hn hb r f (i + 1) (min (10 * v + (q - 48)) 1000) (z_i (z_i M a 5 (nI (min (10 * v + (q - 48)) 1000))) a 4 (nI (i + 1))) (by omega) (by omega) (by omega) (by rw [z_i_of _ _ (by decide), z_i_of _ _ (by decide)]; exact h1) (fun k hk => by rw [z_i_ne hne, z_i_ne hne]; exact hy k hk) (z_i_at _ _ _ _) (by rw [z_i_of _ _ (by decide), z_i_at]), z_i_c _ _ (k := 4) (l := 5) (by decide), z_i_i, z_i_i]
def cTk (a : Nat) (M : Zm) (T : Tk) : Prop := M.1 a 2 = nI (kT T) ∧ M.1 a 3 = nI (kS T) ∧ M.1 a 4 = nI (kB T) ∧ (kT T = 2 → M.1 a 5 = nI (kV T))
theorem c_46 {Γ : Zg} {a L : Nat} (hL : z_r Γ a 0 = L) (hne : L ≠ a) {n : Nat} {y : Nat → Int32} (hn : n ≤ 120) (hb : ∀ k, k < n → ∃ q, q < 256 ∧ y k = nI q) {s : Nat} {M : Zm} (hs : s ≤ n) (h1 : M.1 a 1 = nI n) (hy : ∀ k, k < n → M.1 L k = y k) (h3 : M.1 a 3 = nI s) : ∃ M', X7_advance_P46 Γ M a = some M' ∧ cTk a M' (o_tk2 n y s) ∧ (∀ j, j ≤ 1 → M'.1 a j = M.1 a j) ∧ o_F (o_rS a) M M' := by
  have fa : o_rS a a := rfl
  unfold X7_advance_P46 o_tk2
  rw [z_lts, h3, z_i_of _ _ (by decide), z_i_of _ _ (by decide), h1, h3, hL]
  by_cases c : s < n
  · have hy8 : (z_i M a 4 (nI s)).1 L s = y s := by rw [z_i_ne hne]; exact hy s c
    rw [if_pos (nI_lt c (by omega)), if_pos (z_ixn (by omega) (by decide)), nI_cl (by omega), hy8, if_pos c]
    by_cases d : X7_isLetter (y s) = 0
    · rw [if_pos d, if_neg (fun q => o_ltI.mp q d), if_pos (z_ixn (by omega) (by decide))]
      by_cases e : X7_isDigit (y s) = 0
      · rw [if_pos e, if_neg (fun q => o_dgI.mp q e), if_pos (z_ixn (by omega) (by decide))]
        by_cases k : y s = 59
        · rw [if_pos k, if_pos k, z_lts, z_lts, z_i_of _ _ (by decide), z_i_at, nI_s]
          refine ⟨_, rfl, ⟨?_, ?_, ?_, fun q => absurd (show (3 : Nat) = 2 from q) (by decide)⟩, fun j hj => ?_, ((o_F.i fa).tr (o_F.i fa)).tr (o_F.i fa)⟩
          · rw [z_i_of _ _ (by decide), z_i_at]; rfl
          · rw [z_i_of _ _ (by decide), z_i_of _ _ (by decide), z_i_of _ _ (by decide), h3]; rfl
          · rw [z_i_at]; rfl
          · rw [z_i_of _ _ (by omega), z_i_of _ _ (by omega), z_i_of _ _ (by omega)]
        · rw [if_neg k, if_neg k, z_lts, z_lts, z_i_of _ _ (by decide), z_i_at, nI_s]
          refine ⟨_, rfl, ⟨?_, ?_, ?_, fun q => absurd (show (4 : Nat) = 2 from q) (by decide)⟩, fun j hj => ?_, ((o_F.i fa).tr (o_F.i fa)).tr (o_F.i fa)⟩
          · rw [z_i_of _ _ (by decide), z_i_at]; rfl
          · rw [z_i_of _ _ (by decide), z_i_of _ _ (by decide), z_i_of _ _ (by decide), h3]; rfl
          · rw [z_i_at]; rfl
          · rw [z_i_of _ _ (by omega), z_i_of _ _ (by omega), z_i_of _ _ (by omega)]
      · rw [if_neg e, if_pos (o_dgI.mpr e)]
        unfold X7_takeNumber
        rw [z_lts, z_lts, c_nmL (y := y) hL hne hn hb (n - s) 1000 s 0 (z_i (z_i (z_i M a 4 (nI s)) a 2 2) a 5 0) (by omega) (by omega) (by omega) (by rw [z_i_of _ _ (by decide), z_i_of _ _ (by decide), z_i_of _ _ (by decide)]; exact h1) (fun k hk => by rw [z_i_ne hne, z_i_ne hne, z_i_ne hne]; exact hy k hk) (by rw [z_i_of _ _ (by decide), z_i_of _ _ (by decide), z_i_at]) (by rw [z_i_at]; rfl), Option.bind_some]
        refine ⟨_, rfl, ⟨?_, ?_, ?_, fun _ => ?_⟩, fun j hj => ?_, ((((o_F.i fa).tr (o_F.i fa)).tr (o_F.i fa)).tr (o_F.i fa)).tr (o_F.i fa)⟩
        · rw [z_i_of _ _ (by decide), z_i_of _ _ (by decide), z_i_of _ _ (by decide), z_i_at]; rfl
        · rw [z_i_of _ _ (by decide), z_i_of _ _ (by decide), z_i_of _ _ (by decide), z_i_of _ _ (by decide), z_i_of _ _ (by decide), h3]; rfl
        · rw [z_i_at]; rfl
        · rw [z_i_of _ _ (by decide), z_i_at]; rfl
        · rw [z_i_of _ _ (by omega), z_i_of _ _ (by omega), z_i_of _ _ (by omega), z_i_of _ _ (by omega), z_i_of _ _ (by omega)]
    · rw [if_neg d, if_pos (o_ltI.mpr d)]
      unfold X7_takeWord
      rw [z_lts, c_wdL (y := y) hL hne hn (n - s) 1000 s (z_i (z_i M a 4 (nI s)) a 2 1) (by omega) (by omega) (by rw [z_i_of _ _ (by decide), z_i_of _ _ (by decide)]; exact h1) (fun k hk => by rw [z_i_ne hne, z_i_ne hne]; exact hy k hk) (by rw [z_i_of _ _ (by decide), z_i_at]), Option.bind_some]
      refine ⟨_, rfl, ⟨?_, ?_, ?_, fun q => absurd (show (1 : Nat) = 2 from q) (by decide)⟩, fun j hj => ?_, ((o_F.i fa).tr (o_F.i fa)).tr (o_F.i fa)⟩
      · rw [z_i_of _ _ (by decide), z_i_at]; rfl
      · rw [z_i_of _ _ (by decide), z_i_of _ _ (by decide), z_i_of _ _ (by decide), h3]; rfl
      · rw [z_i_at]; rfl
      · rw [z_i_of _ _ (by omega), z_i_of _ _ (by omega), z_i_of _ _ (by omega)]
  · rw [if_neg (nI_nlt (by omega) (by omega)), if_neg c, z_lts]
    refine ⟨_, rfl, ⟨?_, ?_, ?_, fun q => absurd (show (0 : Nat) = 2 from q) (by decide)⟩, fun j hj => ?_, (o_F.i fa).tr (o_F.i fa)⟩
    · rw [z_i_at]; rfl
    · rw [z_i_of _ _ (by decide), z_i_of _ _ (by decide), h3]; rfl
    · rw [z_i_of _ _ (by decide), z_i_at]; rfl
    · rw [z_i_of _ _ (by omega), z_i_of _ _ (by omega)]
theorem c_adv {Γ : Zg} {a L : Nat} (hL : z_r Γ a 0 = L) (hne : L ≠ a) {n : Nat} {y : Nat → Int32} (hn : n ≤ 120) (hb : ∀ k, k < n → ∃ q, q < 256 ∧ y k = nI q) {i : Nat} {M : Zm} (hi : i ≤ n) (h1 : M.1 a 1 = nI n) (hy : ∀ k, k < n → M.1 L k = y k) (h4 : M.1 a 4 = nI i) : ∃ M', X7_advance Γ M a = some M' ∧ cTk a M' (o_tk n y i) ∧ (∀ j, j ≤ 1 → M'.1 a j = M.1 a j) ∧ o_F (o_rS a) M M' := by
  have fa : o_rS a a := rfl
  have h1' : (z_i M a 3 (nI (o_rn y o_bl (n - i) i))).1 a 1 = nI n := by rw [z_i_of _ _ (by decide)]; exact h1
  have le := o_rn_le y o_bl (n - i) i
  obtain ⟨M', e', c', j', f'⟩ := c_46 (y := y) hL hne hn hb (s := o_rn y o_bl (n - i) i) (M := z_i M a 3 (nI (o_rn y o_bl (n - i) i))) (by omega) h1' (fun k hk => by rw [z_i_ne hne]; exact hy k hk) (z_i_at _ _ _ _)
  refine ⟨M', ?_, c', fun j hj => by rw [j' j hj, z_i_of _ _ (by omega)], (o_F.i fa).tr f'⟩
  unfold X7_advance
  rw [z_lts, h4, c_blL (y := y) hL hne hn (n - i) 1000 i (z_i M a 3 (nI i)) (by omega) (by omega) (by rw [z_i_of _ _ (by decide)]; exact h1) (fun k hk => by rw [z_i_ne hne]; exact hy k hk) (z_i_at _ _ _ _), z_i_i]
  exact e'
