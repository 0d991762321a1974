theorem o_ok.seat {P : Pk} (ok : o_ok P) {i : Nat} {s : Int32} (hs : s = -1 ∨ s = 0 ∨ s = 1) (hu : s = -1 ∨ ∀ j, j < pN P → pV P j 3 = s → j = i) : o_ok (p_v P i 3 s) := by
  obtain ⟨h1, h2, h3, h4, h5⟩ := ok
  refine ⟨h1, h2, h3, fun k hk => ?_, fun a b ha hb e n => ?_⟩
  · have e : ∀ j, j ≠ 3 → pV (p_v P i 3 s) k j = pV P k j := fun j hj => by rw [pV_v, if_neg (by omega)]
    rw [e 0 (by decide), e 1 (by decide), e 2 (by decide), e 5 (by decide)]
    refine ⟨(h4 k hk).1, (h4 k hk).2.1, (h4 k hk).2.2.1, ?_, (h4 k hk).2.2.2.2⟩
    rw [pV_v]
    by_cases c : k = i
    · rw [if_pos ⟨c, rfl⟩]; exact hs
    · rw [if_neg (by omega)]; exact (h4 k hk).2.2.2.1
  · have ha' : a < pN P := ha
    have hb' : b < pN P := hb
    rw [pV_v] at e n
    rw [pV_v] at e
    by_cases c : a = i
    · rw [if_pos ⟨c, rfl⟩] at e n
      by_cases d : b = i
      · rw [c, d]
      · rw [if_neg (by omega)] at e
        exact c.trans ((hu.resolve_left n) b hb' e.symm).symm
    · rw [if_neg (by omega)] at e n
      by_cases d : b = i
      · rw [if_pos ⟨d, rfl⟩] at e
        rw [e] at n
        exact ((hu.resolve_left n) a ha' e).trans d.symm
      · rw [if_neg (by omega)] at e
        exact h5 a b ha' hb' e n
theorem c_set2 {M : Zm} {a : Nat} {P : Pk} (h : o_C M a P) (h8 : pN P ≤ 8) {i : Nat} (hi : i < pN P) (s : Int32) : o_C (X8_settle M (a + 2 + i) s) a (p_v (p_v P i 3 s) i 4 0) ∧ o_F (o_cS a) M (X8_settle M (a + 2 + i) s) := by
  have sa : o_cS a (a + 2 + i) := ⟨by omega, by omega⟩
  exact ⟨(h.v (i := i) (j := 3) s hi (by decide)).v (i := i) (j := 4) 0 hi (by decide), (o_F.i sa).tr (o_F.i sa)⟩
theorem i_range {b : Int32} (d : ¬ (b < -1 ∨ 1 < b)) : b = -1 ∨ b = 0 ∨ b = 1 := by
  by_cases e : b < 0
  · exact Or.inl (i_m1 (fun q => d (Or.inl q)) e)
  · obtain ⟨q, hq, rfl⟩ := o_rg (n := 1) (by decide) e (fun q => d (Or.inr q))
    have : q = 0 ∨ q = 1 := by omega
    rcases this with rfl | rfl
    · exact Or.inr (Or.inl rfl)
    · exact Or.inr (Or.inr rfl)
theorem i_lt2 (a : Int32) : a < 2 ↔ ¬ 1 < a := by
  rw [Int32.lt_iff_toInt_lt, Int32.lt_iff_toInt_lt]
  have h1 : (1 : Int32).toInt = 1 := rfl
  have h2 : (2 : Int32).toInt = 2 := rfl
  omega
theorem e_sit {Γ : Zg} {sz : Nat} (g : g_Ok Γ sz) {S : Sg} (o : SO S) (a b : Int32) : eS sz (fun M => X10_sit Γ M sz a b) (fun M => X11_sit Γ M (sz + 51) a b) S := by
  unfold X10_sit X11_sit
  refine eS.has g o a (fun i hi ea => ?_)
  subst ea
  have H := gm g
  have G := gx g
  have ok := o.1.1
  have h8 := ok.1
  by_cases d : b < -1 ∨ 1 < b
  · refine eS.fd g o 0 (x := -1000000001) (by decide) (by decide) (fun M _ => ?_) (fun M _ => by rw [if_pos ((x_in2 (-1) 1 b (by decide) (by decide)).mpr d)])
    by_cases e : b < -1
    · rw [if_pos e]
    · rw [if_neg e, if_neg (fun q => (i_lt2 b).mp q (d.resolve_left e))]
  · refine eS.ch (fun M _ => by rw [if_neg (fun q => d (Or.inl q)), if_pos ((i_lt2 b).mpr (fun q => d (Or.inr q)))]) (fun M _ => by rw [if_neg (fun q => d ((x_in2 (-1) 1 b (by decide) (by decide)).mp q))]) ?_
    have hb := i_range d
    have good : (b = -1 ∨ ∀ j, j < pN (sP S) → pV (sP S) j 3 = b → j = i) → eS sz (fun M => X10_sit_P63 Γ M sz (nI i) b) (fun M => X11_sit_P55 Γ M (sz + 51) (nI i) b) S := by
      intro hu
      refine eS.up o (p_v (p_v (sP S) i 3 b) i 4 0) ⟨(ok.seat hb hu).v (Or.inr (Or.inr (Or.inl rfl))), o.1.2⟩ (r := pV (sP S) i 3) (fun M h => ?_) (fun M h => ?_)
      · have q := c_set2 h.1 h8 hi b
        refine ⟨_, ?_, q.1, q.2.T8⟩
        unfold X10_sit_P63
        rw [G.1, c_vis (g_P8 g) (by omega), Option.bind_some, h.1.2.2.2.2 i hi 3 (by decide)]
        rfl
      · have q := h.1.v (i := i) (j := 4) 0 hi (by decide)
        have q2 := q.v (i := i) (j := 3) b hi (by decide)
        refine ⟨_, ?_, q2.E (p_v_sq _ i 4 3 _ _ (by decide)), o_F.T52 ((o_F.i (S := o_rS (sz + 52)) rfl).tr (o_F.i rfl))⟩
        unfold X11_sit_P55
        rw [o_atJ (x := 4) (j := 4) rfl, if_pos (z_ixn (by omega) (by decide)), nI_cl (by omega), z_lts, H.1, r_bec H.1 (k := 4 + 6 * i + 3) (by omega) (o_atJ (x := 3) (j := 3) rfl), z_bpi, q.2.2.2.2 i hi 3 (by decide), pV_v, if_neg (by omega)]
    by_cases e : b = -1
    · subst e
      exact eS.ch (fun M _ => by rw [if_pos rfl]; show X10_sit_P45 Γ M sz (nI i) (-1) (-1) = _; unfold X10_sit_P45; rw [if_pos rfl]) (fun M _ => by rw [if_pos (by decide)]) (good (Or.inl rfl))
    · have e0 : ¬ b < 0 := by rcases hb with q | q | q <;> subst q <;> first | exact absurd rfl e | decide
      refine eS.ch (A' := fun M => X10_sit_P45 Γ M sz (nI i) b (o_oI (o_hd (sP S) b))) (B' := fun M => if o_oI (o_hd (sP S) b) < 0 then X11_sit_P55 Γ M (sz + 51) (nI i) b else if o_oI (o_hd (sP S) b) = nI i then X11_sit_P55 Γ M (sz + 51) (nI i) b else z_bp (X11_finds Γ M (sz + 51) (-1000000005)) (fun r M => some (r, M))) (fun M h => by rw [if_neg e, G.1, c_hold (g_P8 g) h.1 ok e, Option.bind_some]) (fun M h => by rw [if_neg e0, r_hold H.1 h.1 h8, Option.bind_some, Option.bind_some]) ?_
      unfold X10_sit_P45
      have on := o_oI_neg h8 (x := o_hd (sP S) b) (fun j hj => (o_hd_some hj).1)
      refine eS.ite (o_hd (sP S) b = none) (fun _ _ => on.2.2) (fun _ _ => on.1) (fun c => good (Or.inr (fun j hj q => absurd q (o_hd_none c hj)))) (fun c => ?_)
      refine eS.ite (o_oI (o_hd (sP S) b) = nI i) (fun _ _ => Iff.rfl) (fun _ _ => Iff.rfl) (fun c2 => good (Or.inr (fun j hj q => ?_))) (fun _ => eS.fd1 g o 4 (by decide) (by decide))
      rw [o_hd_is ok e hj q] at c2
      exact (nI_eq (by omega) (by omega)).mp c2
def o_T28 (sz : Nat) : Nat → Prop := fun b => b = sz ∨ (sz + 28 ≤ b ∧ b < sz + 38)
theorem SC.kept {sz : Nat} {M M' : Zm} {S : Sg} (h : SC sz M S) (o : SO S) {K : Pk} {b : Int32} (h3 : M'.1 sz 3 = b) (hK : b ≠ 0 → o_C M' (sz + 28) K) (f : o_F (o_T28 sz) M M') : SC sz M' (uK S K b) := by
  obtain ⟨h1, h2, h4, h5, h6⟩ := h
  have e : ∀ b, b ≠ sz → ¬ (sz + 28 ≤ b ∧ b < sz + 38) → M'.1 b = M.1 b := fun b hb hc => f.1 b (fun q => q.elim hb hc)
  refine ⟨h1.keep o.1.1.1 (fun b _ _ => e b (by omega) (by omega)), ⟨h3, hK⟩, ⟨by rw [e _ (by omega) (by omega)]; exact h4.1, fun k hk => by rw [e _ (by omega) (by omega)]; exact h4.2 k hk⟩, fun t ht => ?_, fun i hi => ?_⟩
  · rw [e _ (by omega) (by omega), f.2]
    exact h5 t ht
  · rw [e _ (by omega) (by omega)]
    exact h6 i hi
def o_T53 (sz : Nat) : Nat → Prop := fun b => b = sz + 51 ∨ b = sz + 53
theorem SM.kept {sz : Nat} {M M' : Zm} {S : Sg} (h : SM sz M S) {K : Pk} {b : Int32} (h3 : M'.1 (sz + 51) 4 = b) (h7 : M'.1 (sz + 51) 7 = M.1 (sz + 51) 7) (hK : b ≠ 0 → o_R M' (sz + 53) K) (f : o_F (o_T53 sz) M M') : SM sz M' (uK S K b) := by
  obtain ⟨h1, h2, h4, h5, h6, h8⟩ := h
  have e : ∀ b, b ≠ sz + 51 → b ≠ sz + 53 → M'.1 b = M.1 b := fun b hb hc => f.1 b (fun q => q.elim hb hc)
  refine ⟨h1.keep (e _ (by omega) (by omega)), ⟨h3, hK⟩, ⟨by rw [h7]; exact h4.1, fun k hk => by rw [e _ (by omega) (by omega)]; exact h4.2 k hk⟩, fun t ht => ?_, by rw [e _ (by omega) (by omega)]; exact h6, fun i hi => ?_⟩
  · rw [e _ (by omega) (by omega), e _ (by omega) (by omega), f.2]
    exact h5 t ht
  · rw [e _ (by omega) (by omega)]
    exact h8 i hi
theorem f_T28C {sz : Nat} {M M' : Zm} (f : o_F (o_T28 sz) M M') : fC sz M M' := f.fC (fun b hb => by rcases hb with q | q <;> omega)
theorem f_T53R {sz : Nat} {M M' : Zm} (f : o_F (o_T53 sz) M M') : fR sz M M' := f.fR (fun b hb => by rcases hb with q | q <;> omega)
theorem e_image {Γ : Zg} {sz : Nat} (g : g_Ok Γ sz) {S : Sg} (o : SO S) : eS sz (fun M => X10_image Γ M sz) (fun M => X11_image Γ M (sz + 51)) S := by
  have h8 := o.1.1.1
  refine ⟨1, uK S (sP S) 1, fun M h => ?_, fun M h => ?_, ⟨o.1, Or.inr ⟨rfl, o.1⟩, o.2.2⟩⟩
  · obtain ⟨M', e', c', f'⟩ := c_bec (g_P28 g) (g_P8 g) (by omega) h.1 h8
    have s : o_T28 sz sz := Or.inl rfl
    have F1 : o_F (o_T28 sz) M M' := f'.mono (fun b hb => Or.inr ⟨hb.1, Nat.lt_of_lt_of_le hb.2 (Nat.le_refl _)⟩)
    have F2 : o_F (o_T28 sz) M' (z_i M' sz 3 1) := o_F.i s
    have F := F1.tr F2
    have C : o_C (z_i M' sz 3 1) (sz + 28) (sP S) := o_C.keep c' h8 (fun b h1 h2 => by rw [z_i_ne (show b ≠ sz by omega)])
    have B : (z_i M' sz 3 1).1 sz 3 = 1 := by rw [z_i_rd, if_pos ⟨rfl, rfl⟩]
    refine ⟨z_i M' sz 3 1, ?_, SC.kept h o B (fun _ => C) F, f_T28C F⟩
    show X10_image Γ M sz = _
    unfold X10_image
    rw [(gx g).1, (gx g).2.2.1, e', Option.bind_some]
    rfl
  · obtain ⟨M', e', c', f'⟩ := r_cop (v := sz + 52) (w := sz + 53) (by omega) h.1 h8
    have s : o_T53 sz (sz + 51) := Or.inl rfl
    have F1 : o_F (o_T53 sz) M M' := f'.mono (fun b hb => Or.inr hb)
    have F2 : o_F (o_T53 sz) M' (z_i M' (sz + 51) 4 1) := o_F.i s
    have F := F1.tr F2
    have C : o_R (z_i M' (sz + 51) 4 1) (sz + 53) (sP S) := o_R.keep c' (by rw [z_i_ne (show sz + 53 ≠ sz + 51 by omega)])
    have B : (z_i M' (sz + 51) 4 1).1 (sz + 51) 4 = 1 := by rw [z_i_rd, if_pos ⟨rfl, rfl⟩]
    have E : (z_i M' (sz + 51) 4 1).1 (sz + 51) 7 = M.1 (sz + 51) 7 := by rw [z_i_rd, if_neg (by omega), f'.1 (sz + 51) (fun q => by unfold o_rS at q; omega)]
    refine ⟨z_i M' (sz + 51) 4 1, ?_, SM.kept h B E (fun _ => C) F, f_T53R F⟩
    show X11_image Γ M (sz + 51) = _
    unfold X11_image
    rw [(gm g).1, (gm g).2.1, e', Option.bind_some]
    rfl
theorem e_undo {Γ : Zg} {sz : Nat} (g : g_Ok Γ sz) {S : Sg} (o : SO S) : eS sz (fun M => X10_undo Γ M sz) (fun M => X11_undo Γ M (sz + 51)) S := by
  unfold X10_undo X11_undo
  have H := gm g
  have G := gx g
  refine eS.ite (sB S = 0) (fun M h => by rw [h.2.1.1]) (fun M h => by rw [h.2.1.1]) (fun _ => eS.fd1 g o 3 (by decide) (by decide)) (fun c => ?_)
  have ok := (o.2.1.resolve_left c).2
  refine eS.up o (sK S) ok (r := nI (pN (sK S))) (fun M h => ?_) (fun M h => ?_)
  · obtain ⟨M', e', c', f'⟩ := c_bec (g_P8 g) (g_P28 g) (by omega) (h.2.1.2 c) ok.1.1
    exact ⟨M', by rw [G.1, G.2.2.1, e', Option.bind_some, c'.1], c', f'.T8⟩
  · obtain ⟨M', e', c', f'⟩ := r_cop (v := sz + 53) (w := sz + 52) (by omega) (h.2.1.2 c) ok.1.1
    exact ⟨M', by rw [H.1, H.2.1, e', Option.bind_some, c'.1], c', f'.T52⟩
theorem e_tear {sz : Nat} {S : Sg} (o : SO S) : eS sz (fun M => some (X10_tear M sz)) (fun M => some (X11_tear M (sz + 51))) S := by
  refine ⟨if sB S = 0 then 0 else 1, uK S (sK S) 0, fun M h => ?_, fun M h => ?_, ⟨o.1, Or.inl rfl, o.2.2⟩⟩
  · have F : o_F (o_T28 sz) M (z_i M sz 3 0) := o_F.i (Or.inl rfl)
    have B : (z_i M sz 3 0).1 sz 3 = 0 := by rw [z_i_rd, if_pos ⟨rfl, rfl⟩]
    refine ⟨z_i M sz 3 0, ?_, SC.kept h o B (fun q => absurd rfl q) F, f_T28C F⟩
    show some (X10_tear M sz) = _
    unfold X10_tear
    rw [h.2.1.1]
    split <;> rfl
  · have F : o_F (o_T53 sz) M (z_i M (sz + 51) 4 0) := o_F.i (Or.inl rfl)
    have B : (z_i M (sz + 51) 4 0).1 (sz + 51) 4 = 0 := by rw [z_i_rd, if_pos ⟨rfl, rfl⟩]
    have E : (z_i M (sz + 51) 4 0).1 (sz + 51) 7 = M.1 (sz + 51) 7 := by rw [z_i_rd, if_neg (by omega)]
    refine ⟨z_i M (sz + 51) 4 0, ?_, SM.kept h B E (fun q => absurd rfl q) F, f_T53R F⟩
    show some (X11_tear M (sz + 51)) = _
    unfold X11_tear
    rw [z_lts, h.2.1.1]
    split <;> rfl
