theorem o_st3 {Q : Pk} (ok : o_ok Q) {i : Nat} (hi : i < pN Q) : (pV Q i 3 < 0 ↔ pV Q i 3 = -1) ∧ (0 ≤ pV Q i 3 ↔ ¬ pV Q i 3 = -1) := by
  rcases (ok.2.2.2.1 i hi).2.2.2.1 with e | e | e <;> rw [e] <;> decide
theorem e_meet {Γ : Zg} {sz : Nat} (g : g_Ok Γ sz) {S : Sg} (o : SO S) (a b : Int32) : eS sz (fun M => X10_meet Γ M sz a b) (fun M => X11_meet Γ M (sz + 51) a b) S := by
  unfold X10_meet X11_meet
  have h8 := o.1.1.1
  have two : ∀ M, SC sz M S → X10_areTwo Γ M sz a b = if o_hs (sP S) a = 0 then 0 else if o_hs (sP S) b = 0 then 0 else if a = b then 0 else 1 := by
    intro M h
    unfold X10_areTwo
    rw [(gx g).1, c_hasS h, c_hasS h]
    rfl
  by_cases ca : o_hs (sP S) a = 0
  · exact eS.fd g o 0 (x := -1000000001) (by decide) (by decide) (fun M h => by rw [two M h, if_pos ca, if_pos rfl]) (fun M h => by rw [r_isOneS g h, if_pos (show (if a < 0 then (0 : Int32) else if nI (pN (sP S)) ≤ a then 0 else 1) = 0 from ca)])
  · refine eS.ch (fun M h => by rw [two M h, if_neg ca]) (fun M h => by rw [r_isOneS g h, if_neg (show ¬ (if a < 0 then (0 : Int32) else if nI (pN (sP S)) ≤ a then 0 else 1) = 0 from ca)]) ?_
    by_cases cb : o_hs (sP S) b = 0
    · exact eS.fd g o 0 (x := -1000000001) (by decide) (by decide) (fun M h => by rw [if_pos cb, if_pos rfl]) (fun M h => by rw [r_isOneS g h, if_pos (show (if b < 0 then (0 : Int32) else if nI (pN (sP S)) ≤ b then 0 else 1) = 0 from cb)])
    · refine eS.ch (fun M h => by rw [if_neg cb]) (fun M h => by rw [r_isOneS g h, if_neg (show ¬ (if b < 0 then (0 : Int32) else if nI (pN (sP S)) ≤ b then 0 else 1) = 0 from cb)]) ?_
      by_cases cc : a = b
      · exact eS.fd g o 0 (x := -1000000001) (by decide) (by decide) (fun M h => by rw [if_pos cc, if_pos rfl]) (fun M h => by rw [if_pos cc])
      · refine eS.ch (fun M h => by rw [if_neg cc, if_neg (by decide)]) (fun M h => by rw [if_neg cc]) ?_
        obtain ⟨i, hi, rfl⟩ := o_hs1 h8 ca
        obtain ⟨j, hj, rfl⟩ := o_hs1 h8 cb
        refine e_fh (T := fun Q => ¬ pV Q i 3 = -1 ∧ ¬ pV Q j 3 = -1) (L := fun n M l => X11_meet_P41 Γ n M (sz + 51) (nI i) (nI j) l) g o (fun M Q h ok hn => ?_) (fun n M => ?_) (fun n M Q l hl h ok hn => ?_)
        · unfold X10_isSoAhead
          rw [if_neg (by decide), if_neg (by decide), if_pos rfl, c_visA g (by omega), Option.bind_some, h.2.2.2.2 i (by omega) 3 (by decide), c_visA g (by omega), Option.bind_some, h.2.2.2.2 j (by omega) 3 (by decide)]
          by_cases d : pV Q i 3 = -1
          · rw [if_pos d, if_neg (fun q => q.1 d)]
          · rw [if_neg d]
            by_cases d2 : pV Q j 3 = -1
            · rw [if_pos d2, if_neg (fun q => q.2 d2)]
            · rw [if_neg d2, if_pos ⟨d, d2⟩]
        · show X11_meet_P41 Γ (n + 1) M (sz + 51) (nI i) (nI j) (nI 201) = _
          rw [X11_meet_P41, if_pos (by decide)]
          rfl
        · show X11_meet_P41 Γ (n + 1) M (sz + 51) (nI i) (nI j) (nI l) = _
          have h9 : o_R M (sz + 52) Q := h.1.1
          have si := o_st3 ok (i := i) (by omega)
          have sj := o_st3 ok (i := j) (by omega)
          rw [X11_meet_P41, if_neg (by rw [show (200 : Int32) = nI 200 from rfl]; exact nI_nlt (by omega) (by omega)), r_its (x := 3) (gm g).1 h9 (by omega) (i := i) (by omega) (j := 3) rfl (by decide), Option.bind_some, r_its (x := 3) (gm g).1 h9 (by omega) (i := j) (by omega) (j := 3) rfl (by decide), Option.bind_some]
          by_cases d : pV Q i 3 = -1
          · rw [if_pos (si.1.mpr d), if_neg (fun q => q.1 d)]
          · rw [if_neg (fun q => d (si.1.mp q))]
            by_cases d2 : pV Q j 3 = -1
            · rw [if_neg (fun q => sj.2.mp q d2), if_neg (fun q => q.2 d2)]
            · rw [if_pos (sj.2.mpr d2), if_pos ⟨d, d2⟩]
              rfl
theorem o_subI {p q n : Nat} (hp : p ≤ 9999) (hq : q ≤ 9999) (hn : n ≤ 99) : nI n ≤ nI q - nI p ↔ ¬ nI q < nI p + nI n := by
  rw [nI_add, nI_ltI (by omega) (by omega), Int32.le_iff_toInt_le, nI_toInt (by omega), Int32.toInt_sub, nI_toInt (by omega), nI_toInt (by omega), Int.bmod_def]
  split <;> omega
theorem e_enough {Γ : Zg} {sz : Nat} (g : g_Ok Γ sz) {S : Sg} (o : SO S) (a b : Int32) : eS sz (fun M => X10_enough Γ M sz a b) (fun M => X11_enough Γ M (sz + 51) a b) S := by
  unfold X10_enough X11_enough
  refine eS.has g o a (fun i hi ea => ?_)
  subst ea
  have h8 := o.1.1.1
  by_cases d : b < 1 ∨ 99 < b
  · refine eS.fd g o 0 (x := -1000000001) (by decide) (by decide) (fun M _ => ?_) (fun M _ => by rw [if_pos ((x_in2 1 99 b (by decide) (by decide)).mpr d)])
    by_cases e : b < 1
    · rw [if_pos e]
    · rw [if_neg e, if_neg (fun q => Int32.not_le.mpr (d.resolve_left e) q)]
  · obtain ⟨n, hn1, hn, rfl⟩ := i_lt1 (n := 99) (by decide) (fun q => d (Or.inl q)) (fun q => d (Or.inr q))
    obtain ⟨p, hp, ep⟩ := (o.1.1.2.2.2.1 i hi).2.2.2.2
    refine eS.ch (fun M h => by rw [if_neg (fun q => d (Or.inl q)), if_pos (Int32.not_lt.mp (fun q => d (Or.inr q))), (gx g).1, c_vis (g_P8 g) (by omega), Option.bind_some, h.1.2.2.2.2 i hi 5 (by decide), ep]) (fun M _ => by rw [if_neg (fun q => d ((x_in2 1 99 _ (by decide) (by decide)).mp q))]) ?_
    refine e_fh (T := fun Q => ¬ pV Q i 5 < nI p + nI n) (L := fun f M l => X11_enough_P40 Γ f M (sz + 51) (nI i) (nI n) l) g o (fun M Q h ok hn => ?_) (fun f M => ?_) (fun f M Q l hl h ok hn2 => ?_)
    · unfold X10_isSoAhead
      rw [if_neg (by decide), if_neg (by decide), if_neg (by decide), c_visA g (by omega), Option.bind_some, h.2.2.2.2 i (by omega) 5 (by decide)]
      by_cases e : pV Q i 5 < nI p + nI n
      · rw [if_pos e, if_neg (not_not_intro e)]
      · rw [if_neg e, if_pos e]
    · show X11_enough_P40 Γ (f + 1) M (sz + 51) (nI i) (nI n) (nI 201) = _
      rw [X11_enough_P40, if_pos (by decide)]
      rfl
    · show X11_enough_P40 Γ (f + 1) M (sz + 51) (nI i) (nI n) (nI l) = _
      have h9 : o_R M (sz + 52) Q := h.1.1
      obtain ⟨q, hq, eq⟩ := (ok.2.2.2.1 i (by omega)).2.2.2.2
      rw [X11_enough_P40, if_neg (by rw [show (200 : Int32) = nI 200 from rfl]; exact nI_nlt (by omega) (by omega)), r_its (x := 5) (gm g).1 h9 (by omega) (i := i) (by omega) (j := 5) rfl (by decide), Option.bind_some, o_atJ (x := 5) (j := 5) rfl, if_pos (z_ixn (by omega) (by decide)), nI_cl (by omega), (gm g).2.2.2.1, h.2.2.2.2.2 i hi 5 (by decide), ep, eq]
      by_cases e : nI q < nI p + nI n
      · rw [if_neg (fun w => (o_subI hp hq hn).mp w e), if_neg (not_not_intro e)]
      · rw [if_pos ((o_subI hp hq hn).mpr e), if_pos e]
        rfl
