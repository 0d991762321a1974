/-! words -/
def o_by (k i : Nat) : Int32 := (z_sb.getD k []).getD i 0
def o_isw (y : Nat → Int32) (T : Tk) (k : Nat) : Bool := decide (kT T = 1 ∧ kB T = kS T + z_sl.getD k 0 ∧ ∀ i, i < z_sl.getD k 0 → y (kS T + i) = o_by k i)
theorem o_iswI {y : Nat → Int32} {T : Tk} {k : Nat} : o_isw y T k = true ↔ (kT T = 1 ∧ kB T = kS T + z_sl.getD k 0 ∧ ∀ i, i < z_sl.getD k 0 → y (kS T + i) = o_by k i) := decide_eq_true_iff
theorem o_b1t {b : Bool} (h : b = true) : o_b1 b = 1 := if_pos h
theorem o_b1f {b : Bool} (h : ¬ b = true) : o_b1 b = 0 := if_neg h
theorem t_char : ∀ k, k < 10 → ∀ i, i < z_sl.getD k 0 → J0_charAt_5068e k (nI i) = some (o_by k i) := by decide +kernel
theorem t_len : ∀ k, k < 10 → z_sl.getD k 0 ≤ 7 := by decide +kernel
theorem c_iswL {Γ : Zg} {a L : Nat} (hL : z_r Γ a 0 = L) {n : Nat} {y : Nat → Int32} (hn : n ≤ 120) {M : Zm} (hy : ∀ k, k < n → M.1 L k = y k) {s k : Nat} (hk : k < 10) (h3 : M.1 a 3 = nI s) (hs : s + z_sl.getD k 0 ≤ n) : ∀ (r f i : Nat), i + r = z_sl.getD k 0 → r < f → (∀ j, j < i → y (s + j) = o_by k j) → X7_isWord_P28 Γ f M a k (nI i) = some (o_b1 (decide (∀ i, i < z_sl.getD k 0 → y (s + i) = o_by k i)))
  | 0, f + 1, i, hi, _, h => by
    have := t_len k hk
    rw [X7_isWord_P28, show J0_length_8abf5 k = nI (z_sl.getD k 0) from rfl, if_pos (nI_le (by omega) (by omega)), o_b1t (decide_eq_true (fun j hj => h j (by omega)))]
  | r + 1, f + 1, i, hi, hf, h => by
    have := t_len k hk
    rw [X7_isWord_P28, show J0_length_8abf5 k = nI (z_sl.getD k 0) from rfl, if_neg (nI_ge (by omega) (by omega)), h3, nI_add, if_pos (z_ixn (by omega) (by decide)), t_char k hk i (by omega), Option.bind_some, nI_cl (by omega), hL, hy _ (by omega), nI_s]
    by_cases c : y (s + i) = o_by k i
    · rw [if_pos c]
      exact c_iswL hL hn hy hk h3 hs r f (i + 1) (by omega) (by omega) (fun j hj => by
        by_cases d : j = i
        · rw [d]; exact c
        · exact h j (by omega))
    · rw [if_neg c, o_b1f (b := decide (∀ i, i < z_sl.getD k 0 → y (s + i) = o_by k i)) (fun q => c (of_decide_eq_true q i (by omega)))]
theorem c_isw {Γ : Zg} {a L : Nat} (hL : z_r Γ a 0 = L) {n : Nat} {y : Nat → Int32} (hn : n ≤ 120) {M : Zm} (hy : ∀ k, k < n → M.1 L k = y k) {T : Tk} (hT : cTk a M T) (h1 : kS T ≤ kB T) (h2 : kB T ≤ n) (h4 : kT T ≤ 4) {k : Nat} (hk : k < 10) : X7_isWord Γ M a k = some (o_b1 (o_isw y T k)) := by
  have := t_len k hk
  unfold X7_isWord
  rw [hT.1, hT.2.2.1, hT.2.1, o_subN h1, show J0_length_8abf5 k = nI (z_sl.getD k 0) from rfl]
  by_cases c : kT T = 1
  · rw [if_pos (show nI (kT T) = (1 : Int32) from by rw [c]; rfl)]
    by_cases d : kB T = kS T + z_sl.getD k 0
    · rw [if_pos (by rw [d, show kS T + z_sl.getD k 0 - kS T = z_sl.getD k 0 by omega])]
      rw [show (0 : Int32) = nI 0 from rfl, c_iswL hL hn hy hk hT.2.1 (by omega) (z_sl.getD k 0) 1000 0 (by omega) (by omega) (fun j hj => absurd hj (by omega))]
      by_cases e : ∀ i, i < z_sl.getD k 0 → y (kS T + i) = o_by k i
      · rw [o_b1t (decide_eq_true e), o_b1t (o_iswI.mpr ⟨c, d, e⟩)]
      · rw [o_b1f (fun q => e (of_decide_eq_true q)), o_b1f (fun q => e (o_iswI.mp q).2.2)]
    · rw [if_neg (fun q => d (by rw [nI_eq (by omega) (by omega)] at q; omega)), o_b1f (fun q => d (o_iswI.mp q).2.1)]
  · rw [if_neg (show ¬ nI (kT T) = (1 : Int32) from fun q => c ((nI_eq (a := kT T) (b := 1) (by omega) (by omega)).mp q)), o_b1f (fun q => c (o_iswI.mp q).1)]
theorem r_has3 {Γ : Zg} {m L : Nat} (hL : z_r Γ m 6 = L) {n : Nat} {y : Nat → Int32} (hn : n ≤ 120) {M : Zm} (h7 : M.1 m 7 = nI n) (hy : ∀ k, k < n → M.1 L k = y k) {s i : Nat} (h12 : M.1 m 12 = nI s) (hs : s + i + 2 < n) {x : Int32} (hx : x = nI i) (a b c : Int32) : X11_has3 Γ M m x a b c = some (if y (s + i) = a ∧ y (s + i + 1) = b ∧ y (s + i + 2) = c then 1 else 0) := by
  unfold X11_has3
  rw [h12, hx, nI_add, nI_s, show nI (s + i) + (2 : Int32) = nI (s + i + 2) from nI_add (s + i) 2, r_byte hL hn h7 hy (by omega), r_byte hL hn h7 hy (by omega), r_byte hL hn h7 hy (by omega), Option.bind_some, show o_ya n y (s + i) = y (s + i) from if_neg (by omega), show o_ya n y (s + i + 1) = y (s + i + 1) from if_neg (by omega), show o_ya n y (s + i + 2) = y (s + i + 2) from if_neg (by omega)]
  by_cases d : y (s + i) = a
  · rw [if_pos d, Option.bind_some]
    by_cases e : y (s + i + 1) = b
    · rw [if_pos e, Option.bind_some]
      by_cases f : y (s + i + 2) = c
      · rw [if_pos f, if_pos ⟨d, e, f⟩]
      · rw [if_neg f, if_neg (fun q => f q.2.2)]
    · rw [if_neg e, if_neg (fun q => e q.2.1)]
  · rw [if_neg d, if_neg (fun q => d q.1)]
theorem r_isw {m : Nat} {M : Zm} {T : Tk} (hT : rTk m M T) (h1 : kS T ≤ kB T) (h2 : kB T ≤ 120) (h4 : kT T ≤ 4) {l : Nat} (hl : l < 10) {x : Int32} (hx : x = nI l) : X11_isWord M m x = 0 ↔ ¬ (kT T = 1 ∧ kB T = kS T + l) := by
  unfold X11_isWord
  rw [hT.1, hT.2.2.1, hT.2.1, o_subN h1, hx]
  by_cases c : kT T = 1
  · rw [if_pos (show nI (kT T) = (1 : Int32) from by rw [c]; rfl)]
    by_cases d : kB T = kS T + l
    · rw [if_pos (by rw [d, show kS T + l - kS T = l by omega])]
      exact ⟨fun q => absurd q (by decide), fun q => absurd ⟨c, d⟩ q⟩
    · rw [if_neg (fun q => d (by rw [nI_eq (by omega) (by omega)] at q; omega))]
      exact ⟨fun _ q => d q.2, fun _ => rfl⟩
  · rw [if_neg (show ¬ nI (kT T) = (1 : Int32) from fun q => c ((nI_eq (a := kT T) (b := 1) (by omega) (by omega)).mp q))]
    exact ⟨fun _ q => c q.1, fun _ => rfl⟩
theorem o_w4 {y : Nat → Int32} {T : Tk} {k : Nat} (hk : z_sl.getD k 0 = 4) : o_isw y T k = true ↔ ((kT T = 1 ∧ kB T = kS T + 4) ∧ y (kS T) = o_by k 0 ∧ y (kS T + 1) = o_by k 1 ∧ y (kS T + 2) = o_by k 2 ∧ y (kS T + 3) = o_by k 3) := by
  rw [o_iswI, hk]
  constructor
  · rintro ⟨a, b, c⟩
    exact ⟨⟨a, b⟩, c 0 (by decide), c 1 (by decide), c 2 (by decide), c 3 (by decide)⟩
  · rintro ⟨⟨a, b⟩, c0, c1, c2, c3⟩
    refine ⟨a, b, fun i hi => ?_⟩
    have hi' : i = 0 ∨ i = 1 ∨ i = 2 ∨ i = 3 := by omega
    rcases hi' with rfl | rfl | rfl | rfl <;> assumption
theorem o_w5 {y : Nat → Int32} {T : Tk} {k : Nat} (hk : z_sl.getD k 0 = 5) : o_isw y T k = true ↔ ((kT T = 1 ∧ kB T = kS T + 5) ∧ y (kS T) = o_by k 0 ∧ y (kS T + 1) = o_by k 1 ∧ y (kS T + 2) = o_by k 2 ∧ y (kS T + 3) = o_by k 3 ∧ y (kS T + 4) = o_by k 4) := by
  rw [o_iswI, hk]
  constructor
  · rintro ⟨a, b, c⟩
    exact ⟨⟨a, b⟩, c 0 (by decide), c 1 (by decide), c 2 (by decide), c 3 (by decide), c 4 (by decide)⟩
  · rintro ⟨⟨a, b⟩, c0, c1, c2, c3, c4⟩
    refine ⟨a, b, fun i hi => ?_⟩
    have hi' : i = 0 ∨ i = 1 ∨ i = 2 ∨ i = 3 ∨ i = 4 := by omega
    rcases hi' with rfl | rfl | rfl | rfl | rfl <;> assumption
theorem o_w6 {y : Nat → Int32} {T : Tk} {k : Nat} (hk : z_sl.getD k 0 = 6) : o_isw y T k = true ↔ ((kT T = 1 ∧ kB T = kS T + 6) ∧ y (kS T) = o_by k 0 ∧ y (kS T + 1) = o_by k 1 ∧ y (kS T + 2) = o_by k 2 ∧ y (kS T + 3) = o_by k 3 ∧ y (kS T + 4) = o_by k 4 ∧ y (kS T + 5) = o_by k 5) := by
  rw [o_iswI, hk]
  constructor
  · rintro ⟨a, b, c⟩
    exact ⟨⟨a, b⟩, c 0 (by decide), c 1 (by decide), c 2 (by decide), c 3 (by decide), c 4 (by decide), c 5 (by decide)⟩
  · rintro ⟨⟨a, b⟩, c0, c1, c2, c3, c4, c5⟩
    refine ⟨a, b, fun i hi => ?_⟩
    have hi' : i = 0 ∨ i = 1 ∨ i = 2 ∨ i = 3 ∨ i = 4 ∨ i = 5 := by omega
    rcases hi' with rfl | rfl | rfl | rfl | rfl | rfl <;> assumption
theorem o_w7 {y : Nat → Int32} {T : Tk} {k : Nat} (hk : z_sl.getD k 0 = 7) : o_isw y T k = true ↔ ((kT T = 1 ∧ kB T = kS T + 7) ∧ y (kS T) = o_by k 0 ∧ y (kS T + 1) = o_by k 1 ∧ y (kS T + 2) = o_by k 2 ∧ y (kS T + 3) = o_by k 3 ∧ y (kS T + 4) = o_by k 4 ∧ y (kS T + 5) = o_by k 5 ∧ y (kS T + 6) = o_by k 6) := by
  rw [o_iswI, hk]
  constructor
  · rintro ⟨a, b, c⟩
    exact ⟨⟨a, b⟩, c 0 (by decide), c 1 (by decide), c 2 (by decide), c 3 (by decide), c 4 (by decide), c 5 (by decide), c 6 (by decide)⟩
  · rintro ⟨⟨a, b⟩, c0, c1, c2, c3, c4, c5, c6⟩
    refine ⟨a, b, fun i hi => ?_⟩
    have hi' : i = 0 ∨ i = 1 ∨ i = 2 ∨ i = 3 ∨ i = 4 ∨ i = 5 ∨ i = 6 := by omega
    rcases hi' with rfl | rfl | rfl | rfl | rfl | rfl | rfl <;> assumption
theorem o_w3 {y : Nat → Int32} {T : Tk} {k : Nat} (hk : z_sl.getD k 0 = 3) : o_isw y T k = true ↔ ((kT T = 1 ∧ kB T = kS T + 3) ∧ y (kS T) = o_by k 0 ∧ y (kS T + 1) = o_by k 1 ∧ y (kS T + 2) = o_by k 2) := by
  rw [o_iswI, hk]
  constructor
  · rintro ⟨a, b, c⟩
    exact ⟨⟨a, b⟩, c 0 (by decide), c 1 (by decide), c 2 (by decide)⟩
  · rintro ⟨⟨a, b⟩, c0, c1, c2⟩
    refine ⟨a, b, fun i hi => ?_⟩
    have hi' : i = 0 ∨ i = 1 ∨ i = 2 := by omega
    rcases hi' with rfl | rfl | rfl <;> assumption
theorem o_w2 {y : Nat → Int32} {T : Tk} {k : Nat} (hk : z_sl.getD k 0 = 2) : o_isw y T k = true ↔ ((kT T = 1 ∧ kB T = kS T + 2) ∧ y (kS T) = o_by k 0 ∧ y (kS T + 1) = o_by k 1) := by
  rw [o_iswI, hk]
  constructor
  · rintro ⟨a, b, c⟩
    exact ⟨⟨a, b⟩, c 0 (by decide), c 1 (by decide)⟩
  · rintro ⟨⟨a, b⟩, c0, c1⟩
    refine ⟨a, b, fun i hi => ?_⟩
    have hi' : i = 0 ∨ i = 1 := by omega
    rcases hi' with rfl | rfl <;> assumption
theorem o_if0 {p : Prop} [Decidable p] : ((if p then (1 : Int32) else 0) = 0) ↔ ¬ p := by
  by_cases c : p
  · simp [c]
  · simp [c]
theorem r_four {Γ : Zg} {m L : Nat} (hL : z_r Γ m 6 = L) {n : Nat} {y : Nat → Int32} (hn : n ≤ 120) {M : Zm} (h7 : M.1 m 7 = nI n) (hy : ∀ k, k < n → M.1 L k = y k) {T : Tk} (hT : rTk m M T) (h1 : kS T ≤ kB T) (h2 : kB T ≤ n) (h4 : kT T ≤ 4) (k : Nat) (hk : z_sl.getD k 0 = 4) : X11_isFour Γ M m (o_by k 0) (o_by k 1) (o_by k 2) (o_by k 3) = some (o_b1 (o_isw y T k)) := by
  unfold X11_isFour
  by_cases c : kT T = 1 ∧ kB T = kS T + 4
  · rw [if_neg (fun q => (r_isw hT h1 (by omega) h4 (l := 4) (by decide) (x := 4) rfl).mp q c), r_has3 hL hn h7 hy hT.2.1 (i := 0) (by omega) (x := 0) rfl, r_has3 hL hn h7 hy hT.2.1 (i := 1) (by omega) (x := 1) rfl, Option.bind_some, Option.bind_some]
    by_cases d : y (kS T) = o_by k 0 ∧ y (kS T + 1) = o_by k 1 ∧ y (kS T + 2) = o_by k 2
    · rw [if_neg (c := (if y (kS T + 0) = o_by k 0 ∧ y (kS T + 0 + 1) = o_by k 1 ∧ y (kS T + 0 + 2) = o_by k 2 then (1 : Int32) else 0) = 0) (fun q => o_if0.mp q d)]
      by_cases e : y (kS T + 3) = o_by k 3
      · rw [if_neg (fun q => o_if0.mp q ⟨d.2.1, d.2.2, e⟩), o_b1t ((o_w4 hk).mpr ⟨c, d.1, d.2.1, d.2.2, e⟩)]
      · rw [if_pos (o_if0.mpr (fun q => e q.2.2)), o_b1f (fun q => e ((o_w4 hk).mp q).2.2.2.2)]
    · rw [if_pos (c := (if y (kS T + 0) = o_by k 0 ∧ y (kS T + 0 + 1) = o_by k 1 ∧ y (kS T + 0 + 2) = o_by k 2 then (1 : Int32) else 0) = 0) (o_if0.mpr d), o_b1f (fun q => d ⟨((o_w4 hk).mp q).2.1, ((o_w4 hk).mp q).2.2.1, ((o_w4 hk).mp q).2.2.2.1⟩)]
  · rw [if_pos ((r_isw hT h1 (by omega) h4 (l := 4) (by decide) (x := 4) rfl).mpr c), o_b1f (fun q => c ((o_w4 hk).mp q).1)]
theorem r_five {Γ : Zg} {m L : Nat} (hL : z_r Γ m 6 = L) {n : Nat} {y : Nat → Int32} (hn : n ≤ 120) {M : Zm} (h7 : M.1 m 7 = nI n) (hy : ∀ k, k < n → M.1 L k = y k) {T : Tk} (hT : rTk m M T) (h1 : kS T ≤ kB T) (h2 : kB T ≤ n) (h4 : kT T ≤ 4) (k : Nat) (hk : z_sl.getD k 0 = 5) : X11_isFive Γ M m (o_by k 0) (o_by k 1) (o_by k 2) (o_by k 3) (o_by k 4) = some (o_b1 (o_isw y T k)) := by
  unfold X11_isFive
  by_cases c : kT T = 1 ∧ kB T = kS T + 5
  · rw [if_neg (fun q => (r_isw hT h1 (by omega) h4 (l := 5) (by decide) (x := 5) rfl).mp q c), r_has3 hL hn h7 hy hT.2.1 (i := 0) (by omega) (x := 0) rfl, r_has3 hL hn h7 hy hT.2.1 (i := 2) (by omega) (x := 2) rfl, Option.bind_some, Option.bind_some]
    by_cases d : y (kS T) = o_by k 0 ∧ y (kS T + 1) = o_by k 1 ∧ y (kS T + 2) = o_by k 2
    · rw [if_neg (c := (if y (kS T + 0) = o_by k 0 ∧ y (kS T + 0 + 1) = o_by k 1 ∧ y (kS T + 0 + 2) = o_by k 2 then (1 : Int32) else 0) = 0) (fun q => o_if0.mp q d)]
      by_cases e : y (kS T + 3) = o_by k 3 ∧ y (kS T + 4) = o_by k 4
      · rw [if_neg (fun q => o_if0.mp q ⟨d.2.2, e.1, e.2⟩), o_b1t ((o_w5 hk).mpr ⟨c, d.1, d.2.1, d.2.2, e.1, e.2⟩)]
      · rw [if_pos (o_if0.mpr (fun q => e ⟨q.2.1, q.2.2⟩)), o_b1f (fun q => e ((o_w5 hk).mp q).2.2.2.2)]
    · rw [if_pos (c := (if y (kS T + 0) = o_by k 0 ∧ y (kS T + 0 + 1) = o_by k 1 ∧ y (kS T + 0 + 2) = o_by k 2 then (1 : Int32) else 0) = 0) (o_if0.mpr d), o_b1f (fun q => d ⟨((o_w5 hk).mp q).2.1, ((o_w5 hk).mp q).2.2.1, ((o_w5 hk).mp q).2.2.2.1⟩)]
  · rw [if_pos ((r_isw hT h1 (by omega) h4 (l := 5) (by decide) (x := 5) rfl).mpr c), o_b1f (fun q => c ((o_w5 hk).mp q).1)]
theorem r_six {Γ : Zg} {m L : Nat} (hL : z_r Γ m 6 = L) {n : Nat} {y : Nat → Int32} (hn : n ≤ 120) {M : Zm} (h7 : M.1 m 7 = nI n) (hy : ∀ k, k < n → M.1 L k = y k) {T : Tk} (hT : rTk m M T) (h1 : kS T ≤ kB T) (h2 : kB T ≤ n) (h4 : kT T ≤ 4) (k : Nat) (hk : z_sl.getD k 0 = 6) : X11_isSix Γ M m (o_by k 0) (o_by k 1) (o_by k 2) (o_by k 3) (o_by k 4) (o_by k 5) = some (o_b1 (o_isw y T k)) := by
  unfold X11_isSix
  by_cases c : kT T = 1 ∧ kB T = kS T + 6
  · rw [if_neg (fun q => (r_isw hT h1 (by omega) h4 (l := 6) (by decide) (x := 6) rfl).mp q c), r_has3 hL hn h7 hy hT.2.1 (i := 0) (by omega) (x := 0) rfl, r_has3 hL hn h7 hy hT.2.1 (i := 3) (by omega) (x := 3) rfl, Option.bind_some, Option.bind_some]
    by_cases d : y (kS T) = o_by k 0 ∧ y (kS T + 1) = o_by k 1 ∧ y (kS T + 2) = o_by k 2
    · rw [if_neg (c := (if y (kS T + 0) = o_by k 0 ∧ y (kS T + 0 + 1) = o_by k 1 ∧ y (kS T + 0 + 2) = o_by k 2 then (1 : Int32) else 0) = 0) (fun q => o_if0.mp q d)]
      by_cases e : y (kS T + 3) = o_by k 3 ∧ y (kS T + 4) = o_by k 4 ∧ y (kS T + 5) = o_by k 5
      · rw [if_neg (fun q => o_if0.mp q e), o_b1t ((o_w6 hk).mpr ⟨c, d.1, d.2.1, d.2.2, e⟩)]
      · rw [if_pos (o_if0.mpr e), o_b1f (fun q => e ((o_w6 hk).mp q).2.2.2.2)]
    · rw [if_pos (c := (if y (kS T + 0) = o_by k 0 ∧ y (kS T + 0 + 1) = o_by k 1 ∧ y (kS T + 0 + 2) = o_by k 2 then (1 : Int32) else 0) = 0) (o_if0.mpr d), o_b1f (fun q => d ⟨((o_w6 hk).mp q).2.1, ((o_w6 hk).mp q).2.2.1, ((o_w6 hk).mp q).2.2.2.1⟩)]
  · rw [if_pos ((r_isw hT h1 (by omega) h4 (l := 6) (by decide) (x := 6) rfl).mpr c), o_b1f (fun q => c ((o_w6 hk).mp q).1)]
