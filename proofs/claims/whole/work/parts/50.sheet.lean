theorem x_sheet (a : Int32) : X10_isSheet a = 0 ↔ (a < 0 ∨ 4 ≤ a) := o_2if
theorem x_sheetR (a : Int32) : X11_isSheet a = 0 ↔ (a < 0 ∨ 4 ≤ a) := o_2if
theorem i_sh {a : Int32} (h : ¬ (a < 0 ∨ 4 ≤ a)) : ∃ t, t < 4 ∧ a = nI t := by
  obtain ⟨j, hj, rfl⟩ := nI_of (fun q => h (Or.inl q))
  refine ⟨j, ?_, rfl⟩
  by_cases c : j < 4
  · exact c
  · exact absurd (Or.inr (nI_le (a := 4) (b := j) (by omega) (by omega))) h
theorem e_sheet {Γ : Zg} {sz : Nat} (g : g_Ok Γ sz) {S : Sg} (o : SO S) (a b c : Int32) : eS sz (fun M => X10_sheet Γ M sz a b c) (fun M => X11_sheet Γ M (sz + 51) a b c) S := by
  unfold X10_sheet X11_sheet
  refine eS.ite (a < 0 ∨ 4 ≤ a) (fun M _ => x_sheet a) (fun M _ => x_sheetR a) (fun _ => eS.fd1 g o 0 (by decide) (by decide)) (fun d => ?_)
  obtain ⟨t, ht, rfl⟩ := i_sh d
  have K : (b = 0 ∨ b = 8 ∨ b = 16 ∨ b = 64) → eS sz (fun M => X10_sheet_P36 Γ M sz (nI t) b c) (fun M => X11_sheet_P36 Γ M (sz + 51) (nI t) b c) S := by
    intro hw
    unfold X10_sheet_P36 X11_sheet_P36
    refine eS.ite (0 ≤ c) (fun _ _ => Iff.rfl) (fun _ _ => Iff.rfl) (fun e1 => ?_) (fun _ => eS.fd1 g o 6 (by decide) (by decide))
    refine eS.ite (c ≤ 40) (fun _ _ => Iff.rfl) (fun _ _ => Iff.rfl) (fun e2 => ?_) (fun _ => eS.fd1 g o 0 (by decide) (by decide))
    obtain ⟨z, hz, rfl⟩ := o_rg (n := 40) (by decide) (Int32.not_lt.mpr e1) (Int32.not_lt.mpr e2)
    by_cases w0 : b = 0
    · have r := r_shp g o ht hw (z := 0) (z0 := z) (by omega) (by rw [if_pos w0])
      exact eS.ch (fun M _ => by rw [if_pos w0]; rfl) (fun M _ => by rw [if_pos w0]) ⟨nI 0, _, c_shp g o ht b (z := 0) (by omega), by rw [if_pos w0] at r; exact r, o_sh_ok o hw (by omega)⟩
    · have r := r_shp g o ht hw (z := z) (z0 := z) hz (by rw [if_neg w0])
      exact eS.ch (fun M _ => by rw [if_neg w0]) (fun M _ => by rw [if_neg w0]) ⟨nI z, _, c_shp g o ht b hz, by rw [if_neg w0] at r; exact r, o_sh_ok o hw hz⟩
  refine eS.ite (b = 0) (fun _ _ => Iff.rfl) (fun _ _ => Iff.rfl) (fun q => K (Or.inl q)) (fun _ => ?_)
  refine eS.ite (b = 8) (fun _ _ => Iff.rfl) (fun _ _ => Iff.rfl) (fun q => K (Or.inr (Or.inl q))) (fun _ => ?_)
  refine eS.ite (b = 16) (fun _ _ => Iff.rfl) (fun _ _ => Iff.rfl) (fun q => K (Or.inr (Or.inr (Or.inl q)))) (fun _ => ?_)
  exact eS.ite (b = 64) (fun _ _ => Iff.rfl) (fun _ _ => Iff.rfl) (fun q => K (Or.inr (Or.inr (Or.inr q)))) (fun _ => eS.fd1 g o 0 (by decide) (by decide))
