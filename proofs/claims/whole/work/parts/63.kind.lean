/-! the name of a kind -/
def o_kd (y : Nat → Int32) (T : Tk) : Option Nat := if o_isw y T 0 = true then some 0 else if o_isw y T 1 = true then some 1 else if o_isw y T 2 = true then some 2 else if o_isw y T 3 = true then some 3 else if o_isw y T 4 = true then some 4 else if o_isw y T 5 = true then some 5 else none
theorem o_b1z {b : Bool} : o_b1 b = 0 ↔ ¬ b = true := by
  cases b <;> decide
theorem r_seven {α : Type} {Γ : Zg} {m L : Nat} (hL : z_r Γ m 6 = L) {n : Nat} {y : Nat → Int32} (hn : n ≤ 120) {M : Zm} (h7 : M.1 m 7 = nI n) (hy : ∀ k, k < n → M.1 L k = y k) {T : Tk} (hT : rTk m M T) (h1 : kS T ≤ kB T) (h2 : kB T ≤ n) (h4 : kT T ≤ 4) (A B : Option α) : (if (X11_isWord M m (7 : Int32)) = 0 then A else ((X11_has3 Γ M m (0 : Int32) (103 : Int32) (101 : Int32) (110 : Int32)).bind (fun r10 => if r10 = 0 then A else ((X11_has3 Γ M m (3 : Int32) (101 : Int32) (114 : Int32) (97 : Int32)).bind (fun r13 => if r13 = 0 then A else ((X11_has3 Γ M m (4 : Int32) (114 : Int32) (97 : Int32) (108 : Int32)).bind (fun r16 => if r16 = 0 then A else B))))))) = if o_isw y T 2 = true then B else A := by
  have w := o_w7 (y := y) (T := T) (k := 2) rfl
  by_cases c : kT T = 1 ∧ kB T = kS T + 7
  · rw [if_neg (fun q => (r_isw hT h1 (by omega) h4 (l := 7) (by decide) (x := 7) rfl).mp q c), r_has3 hL hn h7 hy hT.2.1 (i := 0) (by omega) (x := 0) rfl, r_has3 hL hn h7 hy hT.2.1 (i := 3) (by omega) (x := 3) rfl, r_has3 hL hn h7 hy hT.2.1 (i := 4) (by omega) (x := 4) rfl, Option.bind_some]
    by_cases d : y (kS T) = 103 ∧ y (kS T + 1) = 101 ∧ y (kS T + 2) = 110
    · rw [if_neg (c := (if y (kS T + 0) = 103 ∧ y (kS T + 0 + 1) = 101 ∧ y (kS T + 0 + 2) = 110 then (1 : Int32) else 0) = 0) (fun q => o_if0.mp q d), Option.bind_some]
      by_cases e : y (kS T + 3) = 101 ∧ y (kS T + 4) = 114 ∧ y (kS T + 5) = 97
      · rw [if_neg (c := (if y (kS T + 3) = 101 ∧ y (kS T + 3 + 1) = 114 ∧ y (kS T + 3 + 2) = 97 then (1 : Int32) else 0) = 0) (fun q => o_if0.mp q e), Option.bind_some]
        by_cases f : y (kS T + 6) = 108
        · rw [if_neg (fun q => o_if0.mp q ⟨e.2.1, e.2.2, f⟩), if_pos (w.mpr ⟨c, d.1, d.2.1, d.2.2, e.1, e.2.1, e.2.2, f⟩)]
        · rw [if_pos (o_if0.mpr (fun q => f q.2.2)), if_neg (fun q => f (w.mp q).2.2.2.2.2.2.2)]
      · rw [if_pos (c := (if y (kS T + 3) = 101 ∧ y (kS T + 3 + 1) = 114 ∧ y (kS T + 3 + 2) = 97 then (1 : Int32) else 0) = 0) (o_if0.mpr e), if_neg (fun q => e ⟨(w.mp q).2.2.2.2.1, (w.mp q).2.2.2.2.2.1, (w.mp q).2.2.2.2.2.2.1⟩)]
    · rw [if_pos (c := (if y (kS T + 0) = 103 ∧ y (kS T + 0 + 1) = 101 ∧ y (kS T + 0 + 2) = 110 then (1 : Int32) else 0) = 0) (o_if0.mpr d), if_neg (fun q => d ⟨(w.mp q).2.1, (w.mp q).2.2.1, (w.mp q).2.2.2.1⟩)]
  · rw [if_pos ((r_isw hT h1 (by omega) h4 (l := 7) (by decide) (x := 7) rfl).mpr c), if_neg (fun q => c (w.mp q).1)]
theorem r_three {α : Type} {Γ : Zg} {m L : Nat} (hL : z_r Γ m 6 = L) {n : Nat} {y : Nat → Int32} (hn : n ≤ 120) {M : Zm} (h7 : M.1 m 7 = nI n) (hy : ∀ k, k < n → M.1 L k = y k) {T : Tk} (hT : rTk m M T) (h1 : kS T ≤ kB T) (h2 : kB T ≤ n) (h4 : kT T ≤ 4) (A B : Option α) : (if (X11_isWord M m (3 : Int32)) = 0 then A else ((X11_has3 Γ M m (0 : Int32) (115 : Int32) (112 : Int32) (121 : Int32)).bind (fun r28 => if r28 = 0 then A else B))) = if o_isw y T 5 = true then B else A := by
  have w := o_w3 (y := y) (T := T) (k := 5) rfl
  by_cases c : kT T = 1 ∧ kB T = kS T + 3
  · rw [if_neg (fun q => (r_isw hT h1 (by omega) h4 (l := 3) (by decide) (x := 3) rfl).mp q c), r_has3 hL hn h7 hy hT.2.1 (i := 0) (by omega) (x := 0) rfl, Option.bind_some]
    by_cases d : y (kS T) = 115 ∧ y (kS T + 1) = 112 ∧ y (kS T + 2) = 121
    · rw [if_neg (c := (if y (kS T + 0) = 115 ∧ y (kS T + 0 + 1) = 112 ∧ y (kS T + 0 + 2) = 121 then (1 : Int32) else 0) = 0) (fun q => o_if0.mp q d), if_pos (w.mpr ⟨c, d⟩)]
    · rw [if_pos (c := (if y (kS T + 0) = 115 ∧ y (kS T + 0 + 1) = 112 ∧ y (kS T + 0 + 2) = 121 then (1 : Int32) else 0) = 0) (o_if0.mpr d), if_neg (fun q => d (w.mp q).2)]
  · rw [if_pos ((r_isw hT h1 (by omega) h4 (l := 3) (by decide) (x := 3) rfl).mpr c), if_neg (fun q => c (w.mp q).1)]
theorem r_two {α : Type} {Γ : Zg} {m L : Nat} (hL : z_r Γ m 6 = L) {n : Nat} {y : Nat → Int32} (hn : n ≤ 120) {M : Zm} (h7 : M.1 m 7 = nI n) (hy : ∀ k, k < n → M.1 L k = y k) {T : Tk} (hT : rTk m M T) (h1 : kS T ≤ kB T) (h2 : kB T ≤ n) (h4 : kT T ≤ 4) (A B : Option α) : (if (X11_isWord M m (2 : Int32)) = 0 then A else ((X11_byteAt Γ M m (M.1 m 12)).bind (fun r22 => if r22 = (111 : Int32) then ((X11_byteAt Γ M m ((M.1 m 12) + (1 : Int32))).bind (fun r25 => if r25 = (110 : Int32) then B else A)) else A))) = if o_isw y T 7 = true then B else A := by
  have w := o_w2 (y := y) (T := T) (k := 7) rfl
  by_cases c : kT T = 1 ∧ kB T = kS T + 2
  · rw [if_neg (fun q => (r_isw hT h1 (by omega) h4 (l := 2) (by decide) (x := 2) rfl).mp q c), hT.2.1, nI_s, r_byte hL hn h7 hy (by omega), r_byte hL hn h7 hy (by omega), Option.bind_some, show o_ya n y (kS T) = y (kS T) from if_neg (by omega), show o_ya n y (kS T + 1) = y (kS T + 1) from if_neg (by omega)]
    by_cases d : y (kS T) = 111
    · rw [if_pos d, Option.bind_some]
      by_cases e : y (kS T + 1) = 110
      · rw [if_pos e, if_pos (w.mpr ⟨c, d, e⟩)]
      · rw [if_neg e, if_neg (fun q => e (w.mp q).2.2)]
    · rw [if_neg d, if_neg (fun q => d (w.mp q).2.1)]
  · rw [if_pos ((r_isw hT h1 (by omega) h4 (l := 2) (by decide) (x := 2) rfl).mpr c), if_neg (fun q => c (w.mp q).1)]
theorem r_kind {Γ : Zg} {m L : Nat} (hL : z_r Γ m 6 = L) {n : Nat} {y : Nat → Int32} (hn : n ≤ 120) {M : Zm} (h7 : M.1 m 7 = nI n) (hy : ∀ k, k < n → M.1 L k = y k) {T : Tk} (hT : rTk m M T) (h1 : kS T ≤ kB T) (h2 : kB T ≤ n) (h4 : kT T ≤ 4) : X11_kindHere Γ M m = some (o_oI (o_kd y T)) := by
  have e0 : X11_isSix Γ M m 112 101 114 115 111 110 = some (o_b1 (o_isw y T 0)) := r_six hL hn h7 hy hT h1 h2 h4 0 rfl
  have e1 : X11_isFive Γ M m 97 99 116 111 114 = some (o_b1 (o_isw y T 1)) := r_five hL hn h7 hy hT h1 h2 h4 1 rfl
  have e3 : X11_isFour Γ M m 119 105 102 101 = some (o_b1 (o_isw y T 3)) := r_four hL hn h7 hy hT h1 h2 h4 3 rfl
  have e4 : X11_isFive Γ M m 108 111 118 101 114 = some (o_b1 (o_isw y T 4)) := r_five hL hn h7 hy hT h1 h2 h4 4 rfl
  have e9 : X11_kindHere_P93 Γ M m = some (o_oI (if o_isw y T 3 = true then some 3 else if o_isw y T 4 = true then some 4 else if o_isw y T 5 = true then some 5 else none)) := by
    unfold X11_kindHere_P93
    rw [e3, e4, Option.bind_some, Option.bind_some, r_three hL hn h7 hy hT h1 h2 h4]
    by_cases c3 : o_isw y T 3 = true
    · rw [if_neg (fun q => o_b1z.mp q c3), if_pos c3]; rfl
    · rw [if_pos (o_b1z.mpr c3), if_neg c3]
      by_cases c4 : o_isw y T 4 = true
      · rw [if_neg (fun q => o_b1z.mp q c4), if_pos c4]; rfl
      · rw [if_pos (o_b1z.mpr c4), if_neg c4]
        by_cases c5 : o_isw y T 5 = true
        · rw [if_pos c5, if_pos c5]; rfl
        · rw [if_neg c5, if_neg c5]; rfl
  unfold X11_kindHere o_kd
  rw [e0, e1, Option.bind_some, Option.bind_some, r_seven hL hn h7 hy hT h1 h2 h4, e9]
  by_cases c0 : o_isw y T 0 = true
  · rw [if_neg (fun q => o_b1z.mp q c0), if_pos c0]; rfl
  · rw [if_pos (o_b1z.mpr c0), if_neg c0]
    by_cases c1 : o_isw y T 1 = true
    · rw [if_neg (fun q => o_b1z.mp q c1), if_pos c1]; rfl
    · rw [if_pos (o_b1z.mpr c1), if_neg c1]
      by_cases c2 : o_isw y T 2 = true
      · rw [if_pos c2, if_pos c2]; rfl
      · rw [if_neg c2, if_neg c2]
