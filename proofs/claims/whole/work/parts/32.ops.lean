theorem eS.ite {sz : Nat} {α : Type} {A1 A2 B1 B2 : Zm → Option (α × Zm)} {S : Sg} {pA pB : Zm → Prop} {dA : ∀ M, Decidable (pA M)} {dB : ∀ M, Decidable (pB M)} (p : Prop) (hA : ∀ M, SC sz M S → (pA M ↔ p)) (hB : ∀ M, SM sz M S → (pB M ↔ p)) (h1 : p → eS sz A1 B1 S) (h2 : ¬ p → eS sz A2 B2 S) : eS sz (fun M => if pA M then A1 M else A2 M) (fun M => if pB M then B1 M else B2 M) S := by
  by_cases c : p
  · exact eS.ch (fun M h => if_pos ((hA M h).mpr c)) (fun M h => if_pos ((hB M h).mpr c)) (h1 c)
  · exact eS.ch (fun M h => if_neg (fun e => c ((hA M h).mp e))) (fun M h => if_neg (fun e => c ((hB M h).mp e))) (h2 c)
theorem eS.up {sz : Nat} {α : Type} {A B : Zm → Option (α × Zm)} {S : Sg} (o : SO S) (P : Pk) (hk : o_kh P) {r : α} (hA : ∀ M, SC sz M S → ∃ M', A M = some (r, M') ∧ o_C M' (sz + 8) P ∧ o_F (o_T8 sz) M M') (hB : ∀ M, SM sz M S → ∃ M', B M = some (r, M') ∧ o_R M' (sz + 52) P ∧ o_F (o_T52 sz) M M') : eS sz A B S := by
  refine ⟨r, uP S P, fun M h => ?_, fun M h => ?_, ⟨hk, o.2⟩⟩
  · obtain ⟨M', e, c, f⟩ := hA M h
    exact ⟨M', e, h.here o c f, f_T8C f⟩
  · obtain ⟨M', e, c, f⟩ := hB M h
    exact ⟨M', e, h.here c f, f_T52R f⟩
theorem eS.fd1 {Γ : Zg} {sz : Nat} (g : g_Ok Γ sz) {S : Sg} (o : SO S) (k : Nat) (hk : k < 7) {x : Int32} (hx : -1000000001 - x = nI k) : eS sz (fun M => z_bp (X10_finding Γ M sz x) (fun r M => some (r, M))) (fun M => z_bp (X11_finds Γ M (sz + 51) x) (fun r M => some (r, M))) S := eS.fd g o k hk hx (fun _ _ => rfl) (fun _ _ => rfl)
theorem o_2if {p q : Prop} [Decidable p] [Decidable q] : ((if p then (0 : Int32) else if q then 0 else 1) = 0 ↔ (p ∨ q)) := by
  by_cases c : p
  · simp [c]
  · by_cases d : q <;> simp [c, d]
theorem x_in2 {lo hi : Int64} (lo' hi' : Int32) (a : Int32) (h1 : lo = lo'.toInt64) (h2 : hi = hi'.toInt64) : X11_isIn a.toInt64 lo hi = 0 ↔ (a < lo' ∨ hi' < a) := by
  rw [h1, h2, x_in]; exact o_2if
theorem x_set (a : Int32) : X10_isSetOfSecrets a = 0 ↔ (a < 0 ∨ 1023 < a) := o_2if
theorem i_sec (a : Int32) : X10_isSecret a = 0 ↔ (a < 0 ∨ 10 ≤ a) := o_2if
theorem i_secR (a : Int32) : X11_isSecret a = 0 ↔ (a < 0 ∨ 10 ≤ a) := o_2if
theorem i_le5 (a : Int32) : (6 : Int32) ≤ a ↔ 5 < a := by
  rw [Int32.le_iff_toInt_le, Int32.lt_iff_toInt_lt]
  have h1 : (6 : Int32).toInt = 6 := rfl
  have h2 : (5 : Int32).toInt = 5 := rfl
  omega
theorem i_kind (a : Int32) : X10_isKind a = 0 ↔ (a < 0 ∨ 5 < a) := by
  unfold X10_isKind
  rw [o_2if, i_le5]
theorem eS.has {Γ : Zg} {sz : Nat} (g : g_Ok Γ sz) {S : Sg} (o : SO S) {A B : Zm → Option (Int32 × Zm)} (a : Int32) (h : ∀ i, i < pN (sP S) → a = nI i → eS sz A B S) : eS sz (fun M => if X3_has M (z_r Γ sz 0) a = 0 then z_bp (X10_finding Γ M sz (-1000000001)) (fun r M => some (r, M)) else A M) (fun M => if X11_isOne Γ M (sz + 51) a = 0 then z_bp (X11_finds Γ M (sz + 51) (-1000000001)) (fun r M => some (r, M)) else B M) S := by
  refine eS.ite (o_hs (sP S) a = 0) (fun M hM => by rw [(gx g).1, c_hasS hM]; rfl) (fun M hM => by rw [r_isOneS g hM]; rfl) (fun _ => eS.fd1 g o 0 (by decide) (by decide)) (fun c => ?_)
  obtain ⟨i, hi, e⟩ := o_hs1 o.1.1.1 c
  exact h i hi e
theorem r_bec {Γ : Zg} {M : Zm} {m w : Nat} (hm : z_r Γ m 0 = w) {k : Nat} (hk : k < 52) {y : Int32} (hy : y = nI k) (x : Int32) : X11_becomes Γ M m y x = some (M.1 w k, z_i M w k x) := by
  unfold X11_becomes
  rw [hy, if_pos (z_ixn hk (by decide)), if_pos (z_ixn hk (by decide)), nI_cl (by omega), hm]
  rfl
theorem o_ok.s {P : Pk} (ok : o_ok P) {q : Nat} (hq : q < 1024) : o_ok (p_s P (nI q)) := ⟨ok.1, ⟨q, hq, rfl⟩, ok.2.2⟩
theorem e_sham {Γ : Zg} {sz : Nat} (g : g_Ok Γ sz) {S : Sg} (o : SO S) (a : Int32) : eS sz (fun M => X10_sham Γ M sz a) (fun M => X11_sham Γ M (sz + 51) a) S := by
  unfold X10_sham X11_sham
  refine eS.ite (a < 0 ∨ 1023 < a) (fun M _ => x_set a) (fun M _ => x_in2 0 1023 a (by decide) (by decide)) (fun _ => eS.fd1 g o 0 (by decide) (by decide)) (fun c => ?_)
  have h0 : ¬ a < 0 := fun q => c (Or.inl q)
  have h1 : ¬ nI 1023 < a := fun q => c (Or.inr q)
  obtain ⟨q, hq, rfl⟩ := o_rg (by decide) h0 h1
  refine eS.up o (p_s (sP S) (nI q)) ⟨o.1.1.s (by omega), o.1.2⟩ (r := pS (sP S)) (fun M h => ?_) (fun M h => ?_)
  · rw [(gx g).1]
    exact ⟨_, by rw [h.1.2.1]; rfl, h.1.s _, o_F.T8 (o_F.i ⟨by omega, by omega⟩)⟩
  · rw [r_bec (gm g).1 (k := 2) (y := 2) (by decide) rfl, z_bpi]
    exact ⟨_, by rw [h.1.2.1], h.1.s _, o_F.T52 (o_F.i rfl)⟩
theorem e_who {Γ : Zg} {sz : Nat} (g : g_Ok Γ sz) {S : Sg} (o : SO S) (a b : Int32) : eS sz (fun M => X10_who Γ M sz a b) (fun M => X11_who Γ M (sz + 51) a b) S := by
  unfold X10_who X11_who
  refine eS.ite (a < 0 ∨ 10 ≤ a) (fun M _ => i_sec a) (fun M _ => i_secR a) (fun _ => eS.fd1 g o 0 (by decide) (by decide)) (fun c => ?_)
  by_cases d : b < 0 ∨ 1 < b
  · refine eS.fd g o 0 (x := -1000000001) (by decide) (by decide) (fun M _ => ?_) (fun M _ => by rw [if_pos ((x_in2 0 1 b (by decide) (by decide)).mpr d)])
    by_cases e : b < 0
    · rw [if_pos e]
    · rw [if_neg e, if_neg (fun q => Int32.not_le.mpr (d.resolve_left e) q)]
  · refine eS.rd o (fun M h => ?_) (fun M h => ?_) (r := o_fo (fun i x => x ||| (((pV (sP S) i (if b = 0 then 1 else 2) >>> (a &&& 31)) &&& 1) <<< (nI i &&& 31))) (pN (sP S)) 0 0)
    · rw [if_neg (fun q => d (Or.inl q)), if_pos (Int32.not_lt.mp (fun q => d (Or.inr q)))]
      exact c_whoL (gx g).1 (g_P8 g) h.1 o.1.1.1 a b _ 1000 0 0 (by omega) (by have := o.1.1.1; omega)
    · rw [if_neg (fun q => d ((x_in2 0 1 b (by decide) (by decide)).mp q))]
      exact r_whoL (gm g).1 h.1 o.1.1.1 a b _ 1000 0 0 (by omega) (by have := o.1.1.1; omega)
theorem e_turn {Γ : Zg} {sz : Nat} (g : g_Ok Γ sz) {S : Sg} (o : SO S) (a b : Int32) : eS sz (fun M => X10_turn Γ M sz a b) (fun M => X11_turn Γ M (sz + 51) a b) S := by
  unfold X10_turn X11_turn
  refine eS.has g o a (fun i hi ea => ?_)
  subst ea
  refine eS.ite (b < 0 ∨ 5 < b) (fun M _ => i_kind b) (fun M _ => x_in2 0 5 b (by decide) (by decide)) (fun _ => eS.fd1 g o 0 (by decide) (by decide)) (fun c => ?_)
  obtain ⟨q, hq, rfl⟩ := o_rg (n := 5) (by decide) (fun q => c (Or.inl q)) (fun q => c (Or.inr q))
  have h8 := o.1.1.1
  refine eS.up o (p_v (sP S) i 0 (nI q)) ⟨o.1.1.v (Or.inr (Or.inr (Or.inr (Or.inr ⟨rfl, q, by omega, rfl⟩)))), o.1.2⟩ (r := pV (sP S) i 0) (fun M h => ?_) (fun M h => ?_)
  · rw [(gx g).1, c_vis (g_P8 g) (by omega), Option.bind_some]
    exact ⟨_, by rw [h.1.2.2.2.2 i hi 0 (by decide)]; rfl, h.1.v _ hi (by decide), o_F.T8 (o_F.i ⟨by omega, by omega⟩)⟩
  · rw [r_bec (gm g).1 (k := 4 + 6 * i + 0) (by omega) (o_atJ (x := 0) (j := 0) rfl), z_bpi]
    exact ⟨_, by rw [h.1.2.2.2.2 i hi 0 (by decide)], h.1.v _ hi (by decide), o_F.T52 (o_F.i rfl)⟩
theorem e_trusts {Γ : Zg} {sz : Nat} (g : g_Ok Γ sz) {S : Sg} (o : SO S) (a b : Int32) : eS sz (fun M => X10_trusts Γ M sz a b) (fun M => X11_trusts Γ M (sz + 51) a b) S := by
  unfold X10_trusts X11_trusts
  refine eS.has g o a (fun i hi ea => ?_)
  subst ea
  refine eS.ite (b < 0 ∨ 10 ≤ b) (fun M _ => i_sec b) (fun M _ => i_secR b) (fun _ => eS.fd1 g o 0 (by decide) (by decide)) (fun c => ?_)
  refine eS.rd o (r := if o_tr (sP S) i b = 0 then 0 else 1) (fun M h => ?_) (fun M h => ?_)
  · rw [(gx g).1, c_tr (g_P8 g) h.1 o.1.1 hi, Option.bind_some]
    split <;> rfl
  · rw [r_tr (gm g).1 h.1 o.1.1 hi, Option.bind_some]
    split <;> rfl
