/-! one sheet changes -/
def o_upd {α : Type} (f : Nat → α) (t : Nat) (x : α) : Nat → α := fun k => if k = t then x else f k
def o_sh (S : Sg) (t : Nat) (w : Int32) (z : Nat) (u : Nat → Int64) : Sg := uS S (o_upd (sW S) t w) (o_upd (sZ S) t z) (o_upd (sU S) t u)
theorem SC.sh {sz : Nat} {M M' : Zm} {S : Sg} (h : SC sz M S) (o : SO S) {t : Nat} (ht : t < 4) {w : Int32} {z : Nat} {u : Nat → Int64} (h1 : M'.1 (sz + 41 + 2 * t) 1 = w) (h2 : M'.1 (sz + 41 + 2 * t) 2 = nI z) (h3 : ∀ k, k < z → M'.2 (sz + 42 + 2 * t) k = u k) (fi : ∀ b, b ≠ sz + 41 + 2 * t → M'.1 b = M.1 b) (fl : ∀ b, b ≠ sz + 42 + 2 * t → M'.2 b = M.2 b) : SC sz M' (o_sh S t w z u) := by
  obtain ⟨g1, g2, g3, g4, g5⟩ := h
  refine ⟨g1.keep o.1.1.1 (fun b _ _ => fi b (by omega)), ⟨by rw [fi _ (by omega)]; exact g2.1, fun q => (g2.2 q).keep ?_ (fun b _ _ => fi b (by omega))⟩, ⟨by rw [fi _ (by omega)]; exact g3.1, fun k hk => by rw [fi _ (by omega)]; exact g3.2 k hk⟩, fun s hs => ?_, fun i hi => ?_⟩
  · rcases o.2.1 with q' | q'
    · exact absurd q' q
    · exact q'.2.1.1
  · show M'.1 (sz + 41 + 2 * s) 1 = (if s = t then w else sW S s) ∧ M'.1 (sz + 41 + 2 * s) 2 = nI (if s = t then z else sZ S s) ∧ ∀ k, k < (if s = t then z else sZ S s) → M'.2 (sz + 42 + 2 * s) k = (if s = t then u else sU S s) k
    by_cases c : s = t
    · subst c
      rw [if_pos rfl, if_pos rfl, if_pos rfl]
      exact ⟨h1, h2, h3⟩
    · rw [if_neg c, if_neg c, if_neg c, fi _ (by omega), fl _ (by omega)]
      exact g4 s hs
  · rw [fi _ (by omega)]
    exact g5 i hi
theorem SM.sh {sz : Nat} {M M' : Zm} {S : Sg} (h : SM sz M S) {t : Nat} (ht : t < 4) {w : Int32} {z : Nat} (hz : ∀ s, s < 4 → sZ S s ≤ 40) (hz' : z ≤ 40) {u : Nat → Int64} (h1 : ∀ s, s < 4 → M'.1 (sz + 58) s = if s = t then (if w = 0 then -1 else w) else M.1 (sz + 58) s) (h2 : ∀ s, s < 4 → M'.1 (sz + 59) s = if s = t then nI z else M.1 (sz + 59) s) (h3 : ∀ k, k < z → M'.2 (sz + 60) (40 * t + k) = u k) (h4 : ∀ s, s < 4 → s ≠ t → ∀ k, k < 40 → M'.2 (sz + 60) (40 * s + k) = M.2 (sz + 60) (40 * s + k)) (fi : ∀ b, b ≠ sz + 58 → b ≠ sz + 59 → M'.1 b = M.1 b) : SM sz M' (o_sh S t w z u) := by
  obtain ⟨g1, g2, g3, g4, g5, g6⟩ := h
  refine ⟨g1.keep (fi _ (by omega) (by omega)), ⟨by rw [fi _ (by omega) (by omega)]; exact g2.1, fun q => (g2.2 q).keep (fi _ (by omega) (by omega))⟩, ⟨by rw [fi _ (by omega) (by omega)]; exact g3.1, fun k hk => by rw [fi _ (by omega) (by omega)]; exact g3.2 k hk⟩, fun s hs => ?_, by rw [fi _ (by omega) (by omega)]; exact g5, fun i hi => by rw [fi _ (by omega) (by omega)]; exact g6 i hi⟩
  show M'.1 (sz + 58) s = (if (if s = t then w else sW S s) = 0 then -1 else (if s = t then w else sW S s)) ∧ M'.1 (sz + 59) s = nI (if s = t then z else sZ S s) ∧ ∀ k, k < (if s = t then z else sZ S s) → M'.2 (sz + 60) (40 * s + k) = (if s = t then u else sU S s) k
  rw [h1 s hs, h2 s hs]
  by_cases c : s = t
  · subst c
    simp only [if_true]
    exact ⟨trivial, trivial, h3⟩
  · simp only [if_neg c]
    refine ⟨(g4 s hs).1, (g4 s hs).2.1, fun k hk => ?_⟩
    rw [h4 s hs c k (by have := hz s hs; omega)]
    exact (g4 s hs).2.2 k hk
