theorem t_bnx : ∀ q, q < 1024 → q ≠ 1023 → ∃ j, j < 10 ∧ (nI q >>> (nI j &&& 31)) &&& 1 = 0 := by decide +kernel
theorem t_b1 : ∀ k, k < 10 → (nI 1023 >>> (nI k &&& 31)) &&& 1 = 1 := by decide +kernel
theorem t_b1N : ∀ q, q < 1024 → ∀ k, k < 10 → ((nI q >>> (nI k &&& 31)) &&& 1 = 0 ∨ (nI q >>> (nI k &&& 31)) &&& 1 = 1) := by decide +kernel
theorem i_and1 (x : Int32) : ∃ q, q ≤ 1 ∧ x &&& 1 = nI q := by
  obtain ⟨q, hq, e⟩ := o_andle (a := 1) (by decide) x
  exact ⟨q, hq, by rw [Int32.and_comm]; exact e⟩
theorem o_kntR {Q : Pk} (ok : o_ok Q) (x : Int32) : -1 < o_knt Q x := by
  obtain ⟨t, ht, e⟩ := o_foN (w := fun i => (pV Q i 1 >>> (x &&& 31)) &&& 1) (B := 1) (pN Q) 0 0 (fun k _ hk => i_and1 _)
  have := o_n8 (B := 1) ok.1
  unfold o_knt
  rw [show (0 : Int32) = nI 0 from rfl]
  exact (show -1 < o_fo (fun i y => y + ((pV Q i 1 >>> (x &&& 31)) &&& 1)) (pN Q) 0 (nI 0) from by rw [e]; exact i_m1n (by omega))
def o_sp (P : Pk) (i k : Nat) : Pk := p_v (p_v P i 1 (pV P i 1 ||| ((1 : Int32) <<< (nI k &&& 31)))) i 2 (pV P i 2 ||| ((1 : Int32) <<< (nI k &&& 31)))
theorem o_sp_ok {P : Pk} (ok : o_ok P) {i k : Nat} (hi : i < pN P) (hk : k < 10) : o_ok (o_sp P i k) := by
  obtain ⟨q, hq, e⟩ := (ok.2.2.2.1 i hi).2.1
  obtain ⟨r, hr, er⟩ := (ok.2.2.2.1 i hi).2.2.1
  unfold o_sp
  rw [e, er, o_bit k hk, o_orI, o_orI]
  exact o_ok.v (o_ok.v ok (Or.inl ⟨rfl, _, o_or_lt hq (o_bitlt k hk), rfl⟩)) (Or.inr (Or.inl ⟨rfl, _, o_or_lt hr (o_bitlt k hk), rfl⟩))
theorem e_confide {Γ : Zg} {sz : Nat} (g : g_Ok Γ sz) {S : Sg} (o : SO S) (a b : Int32) : eS sz (fun M => X10_confide Γ M sz a b) (fun M => X11_confide Γ M (sz + 51) a b) S := by
  unfold X10_confide X11_confide
  have ok := o.1.1
  have h8 := ok.1
  by_cases ca : o_hs (sP S) a = 0
  · exact eS.fd g o 0 (x := -1000000001) (by decide) (by decide) (fun M h => by rw [(gx g).1, c_hasS h, if_pos (show (if a < 0 then (0 : Int32) else if nI (pN (sP S)) ≤ a then 0 else 1) = 0 from ca)]) (fun M h => by rw [if_pos ((x_asked g h a b).mpr (Or.inl ca))])
  · refine eS.ch (fun M h => by rw [show X3_has M (z_r Γ sz 0) a = o_hs (sP S) a from by rw [(gx g).1, c_hasS h]; rfl, if_neg ca]) (fun _ _ => rfl) ?_
    by_cases d : b < 1 ∨ 60 < b
    · refine eS.fd g o 0 (x := -1000000001) (by decide) (by decide) (fun M _ => ?_) (fun M h => by rw [if_pos ((x_asked g h a b).mpr (Or.inr d))])
      by_cases e : b < 1
      · rw [if_pos e]
      · rw [if_neg e, if_neg (fun q => Int32.not_le.mpr (d.resolve_left e) q)]
    · obtain ⟨i, hi, rfl⟩ := o_hs1 h8 ca
      refine eS.ch (fun M h => by rw [if_neg (i_le100 d).1, if_pos (i_le100 d).2, show X3_visitor Γ (z_r Γ sz 0) (nI i) = some (sz + 8 + 2 + i) from by rw [(gx g).1]; exact c_vis (g_P8 g) (by omega), Option.bind_some, h.1.2.2.2.2 i hi 1 (by decide)]) (fun M h => by rw [if_neg (fun q => (((x_asked g h _ b).mp q).elim ca d))]) ?_
      obtain ⟨n, hn1, hn, rfl⟩ := i_lt1 (n := 60) (by decide) (fun q => d (Or.inl q)) (fun q => d (Or.inr q))
      obtain ⟨kn, hkn, ekn⟩ := (ok.2.2.2.1 i hi).2.1
      rw [ekn]
      have its : ∀ M, rA sz S M (sP S) → X11_its Γ M (sz + 51) (nI i) 1 = some (nI kn) := fun M h => by
        rw [r_its (x := 1) (gm g).1 (show o_R M (sz + 52) (sP S) from h.1.1) h8 hi (j := 1) rfl (by decide), ekn]
      by_cases z : kn = 1023
      · subst z
        refine ⟨-1000000004, _, fun M h => ?_, fun M h => ?_, SO.q o (o_fq (sQ S) 3)⟩
        · obtain ⟨M2, e2, c2, f2⟩ := c_fd g o (k := 3) (x := -1000000004) (by decide) (by decide) M h
          exact ⟨M2, by show (if nI 1023 = 1023 then _ else _) = _; rw [if_pos (show nI 1023 = 1023 from rfl), z_bpi]; exact e2, c2, f2⟩
        · obtain ⟨M1, e1, c1, f1⟩ := r_start g o h
          obtain ⟨M2, e2, c2, f2⟩ := r_fd g (k := 3) (x := -1000000004) (by decide) (by decide) M1 c1.1
          refine ⟨M2, ?_, c2, f1.tr f2⟩
          have sk : ∀ r f k, k + r = 10 → r < f → X11_confide_P35 Γ f M1 (sz + 51) (nI i) (nI n) (-1) (-1) (nI k) = X11_finds Γ M1 (sz + 51) (-1000000004) := by
            intro r
            induction r with
            | zero =>
              intro f k hk hf
              obtain ⟨f, rfl⟩ : ∃ f', f = f' + 1 := ⟨f - 1, by omega⟩
              rw [show k = 10 by omega, X11_confide_P35, if_pos (by decide), z_bpi]
              unfold X11_orNone
              rw [if_neg (by decide), z_bpi]
            | succ r ih =>
              intro f k hk hf
              obtain ⟨f, rfl⟩ : ∃ f', f = f' + 1 := ⟨f - 1, by omega⟩
              rw [X11_confide_P35, if_neg (by rw [show (10 : Int32) = nI 10 from rfl]; exact nI_ge (by omega) (by omega)), its M1 c1, Option.bind_some, t_b1 k (by omega), if_neg (by decide), nI_s]
              exact ih f (k + 1) (by omega) (by omega)
          show ((X11_copyRow M (z_r Γ (sz + 51) 0) (z_r Γ (sz + 51) 3)).bind _) = _
          rw [e1, Option.bind_some]
          exact (sk 10 1000 0 (by omega) (by omega)).trans e2
      · refine eS.ch (fun M _ => by rw [if_neg (show ¬ nI kn = 1023 from fun q => z ((nI_eq (b := 1023) (by omega) (by omega)).mp q))]) (fun _ _ => rfl) ?_
        have okk : ∀ k, k < 10 → o_ok (o_sp (sP S) i k) := fun k hk => o_sp_ok ok hi hk
        have hh : ∀ k, k < 10 → o_ok (o_hrs n (o_sp (sP S) i k)) ∧ pN (o_hrs n (o_sp (sP S) i k)) = pN (sP S) := fun k hk => ⟨(o_hrs_ok n (okk k hk)).1, (o_hrs_ok n (okk k hk)).2.1⟩
        have vr : ∀ k, k < 10 → -1 < o_knt (o_hrs n (o_sp (sP S) i k)) (nI k) := fun k hk => o_kntR (hh k hk).1 _
        obtain ⟨j0, hj0, ej0⟩ := t_bnx kn hkn z
        refine e_best g o (v := fun k => if ¬ (nI kn >>> (nI k &&& 31)) &&& 1 = 0 then -1 else o_knt (o_hrs n (o_sp (sP S) i k)) (nI k)) (n := 10) (by decide) (by decide) (C := fun f M l => X10_confide_P58 Γ f M sz (nI i) (nI n) (nI kn) l) (L := fun f M b m l => X11_confide_P35 Γ f M (sz + 51) (nI i) (nI n) b m l) (-1) (fun f M k hk h => ?_) (fun f M h => ?_) (fun f M b m k hk hm h => ?_) (fun f M b m hb => ?_) ?_ ⟨j0, hj0, by show (-1 : Int32) < (if _ then _ else _); rw [if_neg (not_not_intro ej0)]; exact vr j0 hj0⟩
        · show ∃ M', X10_confide_P58 Γ (f + 1) M sz (nI i) (nI n) (nI kn) (nI k) = X10_confide_P58 Γ f M' sz (nI i) (nI n) (nI kn) (nI k + 1) ∧ M'.1 (sz + 50) k = (if ¬ (nI kn >>> (nI k &&& 31)) &&& 1 = 0 then -1 else _) ∧ _
          rw [X10_confide_P58, if_neg (by rw [show (10 : Int32) = nI 10 from rfl]; exact nI_ge (by omega) (by omega))]
          by_cases c : (nI kn >>> (nI k &&& 31)) &&& 1 = 0
          · rw [if_pos ((o_holds0 _ _).mpr c), if_neg (not_not_intro c)]
            obtain ⟨M1, e1, c1, f1⟩ := c_bec18 g o h
            have sv : o_cS (sz + 18) (sz + 18 + 2 + i) := ⟨by omega, by omega⟩
            have q1 := c1.v (i := i) (j := 1) (pV (sP S) i 1 ||| ((1 : Int32) <<< (nI k &&& 31))) hi (by decide)
            have q2 := q1.v (i := i) (j := 2) (pV (sP S) i 2 ||| ((1 : Int32) <<< (nI k &&& 31))) hi (by decide)
            have f2 : o_F (o_cS (sz + 18)) M1 (z_i (z_i M1 (sz + 18 + 2 + i) 1 (pV (sP S) i 1 ||| ((1 : Int32) <<< (nI k &&& 31)))) (sz + 18 + 2 + i) 2 (pV (sP S) i 2 ||| ((1 : Int32) <<< (nI k &&& 31)))) := (o_F.i sv).tr (o_F.i sv)
            obtain ⟨M3, e3, c3, f3⟩ := c_go18 g q2 (okk k hk) (n := n) (by omega)
            have F := (f1.tr f2).tr f3
            refine ⟨z_i M3 (sz + 50) k _, ?_, c_score F k _⟩
            have el : X10_spreadFrom Γ M sz (nI i) (nI k) (nI n) = some (o_knt (o_hrs n (o_sp (sP S) i k)) (nI k), M3) := by
              unfold X10_spreadFrom
              rw [e1, Option.bind_some, c_visA g (by omega), Option.bind_some, z_lts, z_lts, c1.2.2.2.2 i hi 1 (by decide), q1.2.2.2.2 i hi 2 (by decide), pV_v, if_neg (by omega), e3, Option.bind_some, (gx g).2.1, c_knt (g_P18 g) c3 (by rw [show pN (o_hrs n (p_v (p_v (sP S) i 1 (pV (sP S) i 1 ||| ((1 : Int32) <<< (nI k &&& 31)))) i 2 (pV (sP S) i 2 ||| ((1 : Int32) <<< (nI k &&& 31))))) = _ from (hh k hk).2]; exact h8)]
              rfl
            rw [el, z_bps, if_pos (z_ixn (by omega) (by decide)), nI_cl (by omega), (gx g).2.2.2.2.2.2.1, z_lts]
          · rw [if_neg (fun q => c ((o_holds0 _ _).mp q)), if_pos c, if_pos (z_ixn (by omega) (by decide)), nI_cl (by omega), (gx g).2.2.2.2.2.2.1, z_lts]
            exact ⟨_, rfl, c_score o_F.rf k _⟩
        · show X10_confide_P58 Γ (f + 1) M sz (nI i) (nI n) (nI kn) (nI 10) = _
          rw [X10_confide_P58, if_pos (by decide)]
          rfl
        · show ∃ M', X11_confide_P35 Γ (f + 1) M (sz + 51) (nI i) (nI n) b m (nI k) = (if (if ¬ (nI kn >>> (nI k &&& 31)) &&& 1 = 0 then -1 else _) ≤ m then X11_confide_P35 Γ f M' (sz + 51) (nI i) (nI n) b m (nI k + 1) else X11_confide_P35 Γ f M' (sz + 51) (nI i) (nI n) (nI k) (if ¬ (nI kn >>> (nI k &&& 31)) &&& 1 = 0 then -1 else _) (nI k + 1)) ∧ _
          rw [X11_confide_P35, if_neg (by rw [show (10 : Int32) = nI 10 from rfl]; exact nI_ge (by omega) (by omega)), its M h, Option.bind_some]
          by_cases c : (nI kn >>> (nI k &&& 31)) &&& 1 = 0
          · have h9 : o_R M (sz + 52) (sP S) := h.1.1
            have q1 := h9.v (i := i) (j := 1) (pV (sP S) i 1 ||| ((1 : Int32) <<< (nI k &&& 31))) hi (by decide)
            have q2 := q1.v (i := i) (j := 2) (pV (sP S) i 2 ||| ((1 : Int32) <<< (nI k &&& 31))) hi (by decide)
            have f2 : o_F (o_rS (sz + 52)) M (z_i (z_i M (sz + 52) (4 + 6 * i + 1) (pV (sP S) i 1 ||| ((1 : Int32) <<< (nI k &&& 31)))) (sz + 52) (4 + 6 * i + 2) (pV (sP S) i 2 ||| ((1 : Int32) <<< (nI k &&& 31)))) := (o_F.i (S := o_rS (sz + 52)) rfl).tr (o_F.i rfl)
            have h2 := h.st q2 f2
            obtain ⟨M3, e3, c3, f3⟩ := r_goA g h2 (okk k hk) (n := n) (by omega)
            obtain ⟨M4, e4, c4, _, f4⟩ := r_back g o c3
            refine ⟨M4, ?_, c4, ((f_52 f2).tr f3).tr f4⟩
            have c9 : o_R M3 (sz + 52) (o_hrs n (o_sp (sP S) i k)) := c3.1.1
            rw [(gm g).1] at e4
            rw [if_pos c, if_neg (not_not_intro c), o_atJ (x := 1) (j := 1) rfl, if_pos (z_ixn (by omega) (by decide)), if_pos (z_ixn (by omega) (by decide)), nI_cl (by omega), z_lts, (gm g).1, h9.2.2.2.2 i hi 1 (by decide), o_atJ (x := 2) (j := 2) rfl, if_pos (z_ixn (by omega) (by decide)), if_pos (z_ixn (by omega) (by decide)), nI_cl (by omega), z_lts, q1.2.2.2.2 i hi 2 (by decide), pV_v, if_neg (by omega), e3, Option.bind_some, r_knt (gm g).1 c9 (by rw [(hh k hk).2]; exact h8), Option.bind_some, e4, Option.bind_some]
            by_cases q : o_knt (o_hrs n (o_sp (sP S) i k)) (nI k) ≤ m
            · rw [if_pos q, if_pos q, if_pos q]
            · rw [if_neg q, if_neg q, if_neg q]
          · rw [if_neg c, if_pos c]
            exact ⟨M, by rw [if_pos hm], h, fR.rf⟩
        · show X11_confide_P35 Γ (f + 1) M (sz + 51) (nI i) (nI n) b m (nI 10) = _
          rw [X11_confide_P35, if_pos (by decide), r_orN hb]
        · show (-1 : Int32) ≤ (if _ then _ else _)
          split
          · exact Int32.le_refl _
          · exact Int32.le_of_lt (vr 0 (by decide))
