def o_cut (w : Int32) (v : Int64) : Int64 := if w = 8 then v.toInt32.toInt8.toInt32.toInt64 else if w = 16 then v.toInt32.toInt16.toInt32.toInt64 else v
def o_pt (S : Sg) (t k : Nat) (v : Int64) : Sg := o_sh S t (sW S t) (sZ S t) (o_upd (sU S t) k (o_cut (sW S t) v))
theorem o_pt_ok {S : Sg} (o : SO S) {t k : Nat} (ht : t < 4) {v : Int64} : SO (o_pt S t k v) := o_sh_ok o (o.2.2.2 t ht).1 (o.2.2.2 t ht).2
theorem c_put {Γ : Zg} {sz : Nat} (g : g_Ok Γ sz) {S : Sg} (o : SO S) {M : Zm} (h : SC sz M S) {t k : Nat} (ht : t < 4) (hk : k < sZ S t) (v : Int64) : ∃ M', X5_put Γ M (sz + 41 + 2 * t) (nI k) v = some (sU S t k, M') ∧ SC sz M' (o_pt S t k v) ∧ M'.1 = M.1 ∧ fC sz M M' := by
  have eL : z_r Γ (sz + 41 + 2 * t) 0 = sz + 42 + 2 * t := (gx g).2.2.2.2.2.2.2.2.2 t ht
  have h40 := (o.2.2.2 t ht).2
  have hs := h.2.2.2.1 t ht
  have fl : ∀ b, b ≠ sz + 42 + 2 * t → (z_l M (sz + 42 + 2 * t) k (o_cut (sW S t) v)).2 b = M.2 b := fun b hb => z_l_ne hb
  refine ⟨z_l M (sz + 42 + 2 * t) k (o_cut (sW S t) v), ?_, SC.sh h o ht hs.1 hs.2.1 (fun j hj => ?_) (fun b _ => rfl) fl, rfl, fun b hb => ⟨rfl, fl b (by omega)⟩⟩
  · unfold X5_put X5_cut
    rw [if_pos (z_ixn (by omega) (by decide)), if_pos (z_ixn (by omega) (by decide)), nI_cl (by omega), eL, hs.1, hs.2.2 k hk]
    rfl
  · rw [z_l_rd]
    show _ = if j = k then _ else _
    by_cases c : j = k
    · rw [if_pos ⟨rfl, c⟩, if_pos c]
    · rw [if_neg (fun q => c q.2), if_neg c]
      exact hs.2.2 j hj
theorem r_put {sz : Nat} {S : Sg} (o : SO S) {M : Zm} (h : SM sz M S) {t k : Nat} (ht : t < 4) (hk : k < sZ S t) (v : Int64) : SM sz (z_l M (sz + 60) (40 * t + k) (o_cut (sW S t) v)) (o_pt S t k v) ∧ fR sz M (z_l M (sz + 60) (40 * t + k) (o_cut (sW S t) v)) := by
  have h40 := (o.2.2.2 t ht).2
  have hs := h.2.2.2.1 t ht
  refine ⟨SM.sh h ht (fun s hs => (o.2.2.2 s hs).2) h40 (fun s hs2 => ?_) (fun s hs2 => ?_) (fun j hj => ?_) (fun s hs2 hst j hj => ?_) (fun b _ _ => rfl), fun b hb => ⟨rfl, z_l_ne (by omega)⟩⟩
  · by_cases c : s = t
    · rw [if_pos c, c]; exact hs.1
    · rw [if_neg c]; rfl
  · by_cases c : s = t
    · rw [if_pos c, c]; exact hs.2.1
    · rw [if_neg c]; rfl
  · rw [z_l_rd]
    show _ = if j = k then _ else _
    by_cases c : j = k
    · rw [if_pos ⟨rfl, by omega⟩, if_pos c]
    · rw [if_neg (by omega), if_neg c]
      exact hs.2.2 j hj
  · rw [z_l_rd, if_neg (by omega)]
theorem x_narrow {w : Int32} (h : ¬ w = 0) (v : Int64) : X11_narrow (if w = 0 then -1 else w) v = o_cut w v := by
  rw [if_neg h]; rfl
