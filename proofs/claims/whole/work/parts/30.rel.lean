/-! the whole state, abstract; class and reference against it -/
abbrev Sg : Type := Pk × Pk × Int32 × Nat × (Nat → Int32) × (Nat → Int32) × (Nat → Nat) × (Nat → Nat → Int64) × (Nat → Int32)
def sP (S : Sg) : Pk := S.1
def sK (S : Sg) : Pk := S.2.1
def sB (S : Sg) : Int32 := S.2.2.1
def sN (S : Sg) : Nat := S.2.2.2.1
def sY (S : Sg) : Nat → Int32 := S.2.2.2.2.1
def sW (S : Sg) : Nat → Int32 := S.2.2.2.2.2.1
def sZ (S : Sg) : Nat → Nat := S.2.2.2.2.2.2.1
def sU (S : Sg) : Nat → Nat → Int64 := S.2.2.2.2.2.2.2.1
def sQ (S : Sg) : Nat → Int32 := S.2.2.2.2.2.2.2.2
def uP (S : Sg) (P : Pk) : Sg := (P, sK S, sB S, sN S, sY S, sW S, sZ S, sU S, sQ S)
def uK (S : Sg) (K : Pk) (b : Int32) : Sg := (sP S, K, b, sN S, sY S, sW S, sZ S, sU S, sQ S)
def uT (S : Sg) (n : Nat) (y : Nat → Int32) : Sg := (sP S, sK S, sB S, n, y, sW S, sZ S, sU S, sQ S)
def uS (S : Sg) (w : Nat → Int32) (z : Nat → Nat) (u : Nat → Nat → Int64) : Sg := (sP S, sK S, sB S, sN S, sY S, w, z, u, sQ S)
def uQ (S : Sg) (q : Nat → Int32) : Sg := (sP S, sK S, sB S, sN S, sY S, sW S, sZ S, sU S, q)
def cT (sz : Nat) (M : Zm) (S : Sg) : Prop := M.1 (sz + 38) 1 = nI (sN S) ∧ ∀ k, k < sN S → M.1 (sz + 39) k = sY S k
def cS (sz : Nat) (M : Zm) (S : Sg) : Prop := ∀ t, t < 4 → M.1 (sz + 41 + 2 * t) 1 = sW S t ∧ M.1 (sz + 41 + 2 * t) 2 = nI (sZ S t) ∧ ∀ k, k < sZ S t → M.2 (sz + 42 + 2 * t) k = sU S t k
def SC (sz : Nat) (M : Zm) (S : Sg) : Prop := o_C M (sz + 8) (sP S) ∧ (M.1 sz 3 = sB S ∧ (sB S ≠ 0 → o_C M (sz + 28) (sK S))) ∧ cT sz M S ∧ cS sz M S ∧ ∀ k, k < 7 → M.1 (sz + 49) k = sQ S k
def rT (sz : Nat) (M : Zm) (S : Sg) : Prop := M.1 (sz + 51) 7 = nI (sN S) ∧ ∀ k, k < sN S → M.1 (sz + 57) k = sY S k
def rS (sz : Nat) (M : Zm) (S : Sg) : Prop := ∀ t, t < 4 → M.1 (sz + 58) t = (if sW S t = 0 then -1 else sW S t) ∧ M.1 (sz + 59) t = nI (sZ S t) ∧ ∀ k, k < sZ S t → M.2 (sz + 60) (40 * t + k) = sU S t k
def o_sum (q : Nat → Int32) : Int32 := o_fo (fun i x => x + q i) 7 0 0
def SM (sz : Nat) (M : Zm) (S : Sg) : Prop := o_R M (sz + 52) (sP S) ∧ (M.1 (sz + 51) 4 = sB S ∧ (sB S ≠ 0 → o_R M (sz + 53) (sK S))) ∧ rT sz M S ∧ rS sz M S ∧ M.1 (sz + 56) 0 = o_sum (sQ S) ∧ ∀ k, k < 7 → M.1 (sz + 56) (k + 1) = sQ S k
def o_kh (P : Pk) : Prop := o_ok P ∧ ∃ h, h ≤ 99999 ∧ pH P = nI h
def SO (S : Sg) : Prop := o_kh (sP S) ∧ (sB S = 0 ∨ (sB S = 1 ∧ o_kh (sK S))) ∧ (sN S ≤ 120 ∧ ∀ k, k < sN S → ∃ q, q < 256 ∧ sY S k = nI q) ∧ ∀ t, t < 4 → (sW S t = 0 ∨ sW S t = 8 ∨ sW S t = 16 ∨ sW S t = 64) ∧ sZ S t ≤ 40
/-- what the class may touch, what the reference may touch -/
def fC (sz : Nat) (M M' : Zm) : Prop := ∀ b, sz + 51 ≤ b → M'.1 b = M.1 b ∧ M'.2 b = M.2 b
def fR (sz : Nat) (M M' : Zm) : Prop := ∀ b, b < sz + 51 → M'.1 b = M.1 b ∧ M'.2 b = M.2 b
theorem fC.rf {sz : Nat} {M : Zm} : fC sz M M := fun _ _ => ⟨rfl, rfl⟩
theorem fR.rf {sz : Nat} {M : Zm} : fR sz M M := fun _ _ => ⟨rfl, rfl⟩
theorem fC.tr {sz : Nat} {M M1 M2 : Zm} (h : fC sz M M1) (h2 : fC sz M1 M2) : fC sz M M2 := fun b hb => ⟨((h2 b hb).1).trans (h b hb).1, ((h2 b hb).2).trans (h b hb).2⟩
theorem fR.tr {sz : Nat} {M M1 M2 : Zm} (h : fR sz M M1) (h2 : fR sz M1 M2) : fR sz M M2 := fun b hb => ⟨((h2 b hb).1).trans (h b hb).1, ((h2 b hb).2).trans (h b hb).2⟩
theorem o_F.fC {T : Nat → Prop} {sz : Nat} {M M' : Zm} (h : o_F T M M') (hT : ∀ b, T b → b < sz + 51) : fC sz M M' := fun b hb => ⟨h.1 b (fun t => by have := hT b t; omega), by rw [h.2]⟩
theorem o_F.fR {T : Nat → Prop} {sz : Nat} {M M' : Zm} (h : o_F T M M') (hT : ∀ b, T b → sz + 51 ≤ b) : fR sz M M' := fun b hb => ⟨h.1 b (fun t => by have := hT b t; omega), by rw [h.2]⟩
theorem SM.keep {sz : Nat} {M M' : Zm} {S : Sg} (h : SM sz M S) (f : fC sz M M') : SM sz M' S := by
  obtain ⟨h1, h2, h3, h4, h5, h6⟩ := h
  have e : ∀ b, sz + 51 ≤ b → M'.1 b = M.1 b := fun b hb => (f b hb).1
  refine ⟨h1.keep (e _ (by omega)), ⟨by rw [e _ (by omega)]; exact h2.1, fun q => (h2.2 q).keep (e _ (by omega))⟩, ⟨by rw [e _ (by omega)]; exact h3.1, fun k hk => by rw [e _ (by omega)]; exact h3.2 k hk⟩, fun t ht => ?_, by rw [e _ (by omega)]; exact h5, fun k hk => by rw [e _ (by omega)]; exact h6 k hk⟩
  rw [e _ (by omega), e _ (by omega), (f (sz + 60) (by omega)).2]
  exact h4 t ht
theorem SC.keep {sz : Nat} {M M' : Zm} {S : Sg} (h : SC sz M S) (o : SO S) (f : fR sz M M') : SC sz M' S := by
  obtain ⟨h1, h2, h3, h4, h5⟩ := h
  have e : ∀ b, b < sz + 51 → M'.1 b = M.1 b := fun b hb => (f b hb).1
  refine ⟨h1.keep o.1.1.1 (fun b _ _ => e b (by omega)), ⟨by rw [e _ (by omega)]; exact h2.1, fun q => (h2.2 q).keep ?_ (fun b _ _ => e b (by omega))⟩, ⟨by rw [e _ (by omega)]; exact h3.1, fun k hk => by rw [e _ (by omega)]; exact h3.2 k hk⟩, fun t ht => ?_, fun k hk => by rw [e _ (by omega)]; exact h5 k hk⟩
  · rcases o.2.1 with q' | q'
    · exact absurd q' q
    · exact q'.2.1.1
  · rw [e _ (by omega), (f (sz + 42 + 2 * t) (by omega)).2]
    exact h4 t ht
/-- one side's work at a state: the answer and the state after -/
def cO (sz : Nat) {α : Type} (A : Zm → Option (α × Zm)) (S : Sg) (r : α) (S' : Sg) : Prop := ∀ M, SC sz M S → ∃ M', A M = some (r, M') ∧ SC sz M' S' ∧ fC sz M M'
def rO (sz : Nat) {α : Type} (B : Zm → Option (α × Zm)) (S : Sg) (r : α) (S' : Sg) : Prop := ∀ M, SM sz M S → ∃ M', B M = some (r, M') ∧ SM sz M' S' ∧ fR sz M M'
def eO (sz : Nat) {α : Type} (A B : Zm → Option (α × Zm)) : Prop := ∀ S, SO S → ∃ r S', cO sz A S r S' ∧ rO sz B S r S' ∧ SO S'
def bO (sz : Nat) (M : Zm) : Prop := ∃ S, SO S ∧ SC sz M S ∧ SM sz M S
theorem eO.go {sz : Nat} {α : Type} {A B : Zm → Option (α × Zm)} (h : eO sz A B) {M : Zm} (hb : bO sz M) : ∃ r M1 M2, A M = some (r, M1) ∧ B M1 = some (r, M2) ∧ bO sz M2 := by
  obtain ⟨S, o, c, m⟩ := hb
  obtain ⟨r, S', hc, hr, o'⟩ := h S o
  obtain ⟨M1, e1, c1, f1⟩ := hc M c
  obtain ⟨M2, e2, m2, f2⟩ := hr M1 (m.keep f1)
  exact ⟨r, M1, M2, e1, e2, S', o', c1.keep o' f2, m2⟩
theorem gx {Γ : Zg} {sz : Nat} (g : g_Ok Γ sz) : z_r Γ sz 0 = sz + 8 ∧ z_r Γ sz 1 = sz + 18 ∧ z_r Γ sz 2 = sz + 28 ∧ z_r Γ sz 4 = sz + 38 ∧ z_r Γ sz 5 = sz + 40 ∧ z_r Γ sz 6 = sz + 49 ∧ z_r Γ sz 7 = sz + 50 ∧ z_r Γ (sz + 38) 0 = sz + 39 ∧ (∀ t, t < 4 → z_r Γ (sz + 40) t = sz + 41 + 2 * t) ∧ (∀ t, t < 4 → z_r Γ (sz + 41 + 2 * t) 0 = sz + 42 + 2 * t) := by
  have g0 := (g 0 (by decide)).2
  refine ⟨g0 0, g0 1, g0 2, g0 4, g0 5, g0 6, g0 7, (g 38 (by decide)).2 0, fun t ht => ?_, fun t ht => ?_⟩
  · rw [(g 40 (by decide)).2 t]
    have h : ∀ t, t < 4 → (g_R.getD 40 []).getD t 0 = 41 + 2 * t := by decide +kernel
    rw [h t ht]; omega
  · rw [show sz + 41 + 2 * t = sz + (41 + 2 * t) by omega, (g (41 + 2 * t) (by omega)).2 0]
    have h : ∀ t, t < 4 → (g_R.getD (41 + 2 * t) []).getD 0 0 = 42 + 2 * t := by decide +kernel
    rw [h t ht]; omega
theorem gm {Γ : Zg} {sz : Nat} (g : g_Ok Γ sz) : z_r Γ (sz + 51) 0 = sz + 52 ∧ z_r Γ (sz + 51) 1 = sz + 53 ∧ z_r Γ (sz + 51) 2 = sz + 54 ∧ z_r Γ (sz + 51) 3 = sz + 55 ∧ z_r Γ (sz + 51) 5 = sz + 56 ∧ z_r Γ (sz + 51) 6 = sz + 57 ∧ z_r Γ (sz + 51) 8 = sz + 58 ∧ z_r Γ (sz + 51) 9 = sz + 59 ∧ z_r Γ (sz + 51) 10 = sz + 60 := by
  have g0 := (g 51 (by decide)).2
  exact ⟨g0 0, g0 1, g0 2, g0 3, g0 5, g0 6, g0 8, g0 9, g0 10⟩
