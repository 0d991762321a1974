theorem c_statL {Γ : Zg} {sz : Nat} (g : g_Ok Γ sz) {S : Sg} {M : Zm} (h : SC sz M S) : ∀ (r f i : Nat) (x : Int32), i + r = 7 → r < f → X10_status_P33 Γ f M sz x (nI i) = some (o_fo (fun i x => x + sQ S i) r i x, M)
  | 0, f + 1, i, x, hi, _ => by
    have : i = 7 := by omega
    subst this
    rw [X10_status_P33, if_pos (by decide)]; rfl
  | r + 1, f + 1, i, x, hi, hf => by
    rw [X10_status_P33, if_neg (by rw [show (7 : Int32) = nI 7 from rfl]; exact nI_ge (by omega) (by omega)), if_pos (z_ixn (by omega) (by decide)), nI_cl (by omega), (gx g).2.2.2.2.2.1, h.2.2.2.2 i (by omega), nI_s]
    exact c_statL g h r f (i + 1) _ (by omega) (by omega)
theorem i_lt7 (a : Int32) : a < 7 ↔ ¬ 6 < a := by
  rw [Int32.lt_iff_toInt_lt, Int32.lt_iff_toInt_lt]
  have h1 : (6 : Int32).toInt = 6 := rfl
  have h2 : (7 : Int32).toInt = 7 := rfl
  omega
theorem i_m1 {a : Int32} (h : ¬ a < -1) (h0 : a < 0) : a = -1 := by
  rw [Int32.lt_iff_toInt_lt] at h h0
  have h1 : (-1 : Int32).toInt = -1 := rfl
  have h2 : (0 : Int32).toInt = 0 := rfl
  exact Int32.toInt_inj.mp (by omega)
theorem e_status {Γ : Zg} {sz : Nat} (g : g_Ok Γ sz) {S : Sg} (o : SO S) (a : Int32) : eS sz (fun M => X10_status Γ M sz a) (fun M => X11_status Γ M (sz + 51) a) S := by
  unfold X10_status X11_status
  have H := gm g
  by_cases d : a < -1 ∨ 6 < a
  · refine eS.fd g o 0 (x := -1000000001) (by decide) (by decide) (fun M _ => ?_) (fun M _ => by rw [if_pos ((x_in2 (-1) 6 a (by decide) (by decide)).mpr d)])
    by_cases e : a < -1
    · rw [if_pos e]
    · rw [if_neg e, if_neg (fun q => (i_lt7 a).mp q (d.resolve_left e))]
  · refine eS.ch (fun M _ => by rw [if_neg (fun q => d (Or.inl q)), if_pos ((i_lt7 a).mpr (fun q => d (Or.inr q)))]) (fun M _ => by rw [if_neg (fun q => d ((x_in2 (-1) 6 a (by decide) (by decide)).mp q))]) ?_
    by_cases e : a < 0
    · have ea := i_m1 (fun q => d (Or.inl q)) e
      subst ea
      refine eS.rd o (r := o_sum (sQ S)) (fun M h => ?_) (fun M h => ?_)
      · rw [if_pos e]
        exact c_statL g h 7 1000 0 0 (by omega) (by omega)
      · rw [if_pos (by decide), H.2.2.2.2.1, show ((-1 : Int32) + 1).toNatClampNeg = 0 from rfl, h.2.2.2.2.1]
    · obtain ⟨q, hq, rfl⟩ := o_rg (n := 6) (by decide) e (fun q => d (Or.inr q))
      refine eS.rd o (r := sQ S q) (fun M h => ?_) (fun M h => ?_)
      · rw [if_neg e, if_pos (z_ixn (by omega) (by decide)), nI_cl (by omega), (gx g).2.2.2.2.2.1, h.2.2.2.2 q (by omega)]
      · rw [nI_s, if_pos (z_ixn (by omega) (by decide)), nI_cl (by omega), H.2.2.2.2.1, h.2.2.2.2.2 q (by omega)]
theorem o_hrs_H : ∀ (n : Nat) {P : Pk}, o_ok P → pH (o_hrs n P) = pH P + nI n
  | 0, P, _ => by show pH P = pH P + 0; simp
  | n + 1, P, h => by
    show pH (o_hrs n (o_hr P)) = _
    rw [o_hrs_H n (o_hr_ok h), (o_hr_E h).2.1, Int32.add_assoc, Int32.add_comm 1 (nI n), nI_s]
theorem o_99 {n : Nat} (hn : n ≤ 99999) : (99999 : Int32) - nI n = nI (99999 - n) := by
  have e : (99999 : Int32) = nI (99999 - n) + nI n := by
    rw [nI_add, show 99999 - n + n = 99999 by omega]; rfl
  rw [e]
  exact Int32.add_sub_cancel _ _
theorem i_lt1 {a : Int32} {n : Nat} (hn : n < 2 ^ 31) (h : ¬ a < 1) (h2 : ¬ nI n < a) : ∃ q, 1 ≤ q ∧ q ≤ n ∧ a = nI q := by
  have h0 : ¬ a < 0 := fun q => h (by
    rw [Int32.lt_iff_toInt_lt] at q ⊢
    have h1 : (1 : Int32).toInt = 1 := rfl
    have h2 : (0 : Int32).toInt = 0 := rfl
    omega)
  obtain ⟨q, hq, rfl⟩ := o_rg hn h0 h2
  refine ⟨q, ?_, hq, rfl⟩
  by_cases c : q = 0
  · subst c; exact absurd (by decide) h
  · omega
theorem e_hours {Γ : Zg} {sz : Nat} (g : g_Ok Γ sz) {S : Sg} (o : SO S) (a : Int32) : eS sz (fun M => X10_hours Γ M sz a) (fun M => X11_hours Γ M (sz + 51) a) S := by
  unfold X10_hours X11_hours
  have H := gm g
  have G := gx g
  by_cases d : a < 1 ∨ 100 < a
  · refine eS.fd g o 0 (x := -1000000001) (by decide) (by decide) (fun M _ => ?_) (fun M _ => by rw [if_pos ((x_in2 1 100 a (by decide) (by decide)).mpr d)])
    by_cases e : a < 1
    · rw [if_pos e]
    · rw [if_neg e, if_neg (fun q => Int32.not_le.mpr (d.resolve_left e) q)]
  · refine eS.ch (fun M _ => by rw [if_neg (fun q => d (Or.inl q)), if_pos (Int32.not_lt.mp (fun q => d (Or.inr q)))]) (fun M _ => by rw [if_neg (fun q => d ((x_in2 1 100 a (by decide) (by decide)).mp q))]) ?_
    obtain ⟨n, hn1, hn, rfl⟩ := i_lt1 (n := 100) (by decide) (fun q => d (Or.inl q)) (fun q => d (Or.inr q))
    obtain ⟨ok, t, ht, et⟩ := o.1
    have h8 := ok.1
    refine eS.ite (t + n ≤ 99999) (fun M h => by rw [G.1, h.1.2.2.1, et, o_99 (by omega), nI_leI (by omega) (by omega)]; omega) (fun M h => by rw [H.1, h.1.2.2.1, et, nI_add, show (99999 : Int32) = nI 99999 from rfl, nI_leI (by omega) (by omega)]) (fun c => ?_) (fun _ => eS.fd1 g o 4 (by decide) (by decide))
    have hk := o_hrs_ok n ok
    refine eS.up o (o_hrs n (sP S)) ⟨hk.1, t + n, c, by rw [o_hrs_H n ok, et, nI_add]⟩ (r := o_heard (o_hrs n (sP S))) (fun M h => ?_) (fun M h => ?_)
    · obtain ⟨M', e', c', f'⟩ := c_go (g_P8 g) (n := n) (by omega) h.1 ok
      refine ⟨M', ?_, c', f'.T8⟩
      rw [G.1, e', Option.bind_some, c_heard (g_P8 g) c' (by rw [hk.2.1]; exact h8)]
      rfl
    · obtain ⟨M', e', c', f'⟩ := r_go H.1 (n := n) (by omega) h.1 ok
      refine ⟨M', ?_, c', f'.T52⟩
      rw [e', Option.bind_some, r_heard H.1 c' (by rw [hk.2.1]; exact h8)]
      rfl
