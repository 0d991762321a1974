/-! folds over the visitors; become and copyRow -/
def o_fo (f : Nat → Int32 → Int32) : Nat → Nat → Int32 → Int32
  | 0, _, x => x
  | r + 1, i, x => o_fo f r (i + 1) (f i x)
def o_heard (P : Pk) : Int32 := o_fo (fun i x => x + pV P i 5) (pN P) 0 0
def o_bel (P : Pk) : Int32 := o_fo (fun i x => x + o_bc (pV P i 2)) (pN P) 0 0
def o_out (P : Pk) : Int32 := o_fo (fun i x => x &&& pV P i 1) (pN P) 0 (if pN P = 0 then 0 else 1023)
def o_knt (P : Pk) (k : Int32) : Int32 := o_fo (fun i x => x + ((pV P i 1 >>> (k &&& 31)) &&& 1)) (pN P) 0 0
def o_who (P : Pk) (k : Int32) (j : Nat) : Int32 := o_fo (fun i x => x ||| (((pV P i j >>> (k &&& 31)) &&& 1) <<< (nI i &&& 31))) (pN P) 0 0
theorem c_heardL {Γ : Zg} {M : Zm} {a : Nat} {P : Pk} (hP : g_P Γ a) (h : o_C M a P) (h8 : pN P ≤ 8) : ∀ (r f i : Nat) (x : Int32), i + r = pN P → r < f → X3_heardByAll_P4 Γ f M a x (nI i) = some (o_fo (fun i x => x + pV P i 5) r i x)
  | 0, f + 1, i, x, hi, _ => by
    rw [X3_heardByAll_P4, h.1, if_pos (nI_le (by omega) (by omega))]; rfl
  | r + 1, f + 1, i, x, hi, hf => by
    rw [X3_heardByAll_P4, h.1, if_neg (nI_ge (by omega) (by omega)), if_pos (z_ixn (by omega) (by decide)), nI_cl (by omega), hP.1 i (by omega), h.2.2.2.2 i (by omega) 5 (by decide), nI_s]
    exact c_heardL hP h h8 r f (i + 1) _ (by omega) (by omega)
theorem c_heard {Γ : Zg} {M : Zm} {a : Nat} {P : Pk} (hP : g_P Γ a) (h : o_C M a P) (h8 : pN P ≤ 8) : X3_heardByAll Γ M a = some (o_heard P) := c_heardL hP h h8 (pN P) 1000 0 0 (by omega) (by omega)
theorem r_heardL {Γ : Zg} {M : Zm} {m w : Nat} {P : Pk} (hm : z_r Γ m 0 = w) (h : o_R M w P) (h8 : pN P ≤ 8) : ∀ (r f i : Nat) (x : Int32), i + r = pN P → r < f → X11_heardOfAll_P4 Γ f M m x (nI i) = some (o_fo (fun i x => x + pV P i 5) r i x)
  | 0, f + 1, i, x, hi, _ => by
    rw [X11_heardOfAll_P4, hm, h.1, if_pos (nI_le (by omega) (by omega))]; rfl
  | r + 1, f + 1, i, x, hi, hf => by
    rw [X11_heardOfAll_P4, hm, h.1, if_neg (nI_ge (by omega) (by omega)), r_its (x := 5) hm h h8 (by omega) (j := 5) rfl (by decide), Option.bind_some, nI_s]
    exact r_heardL hm h h8 r f (i + 1) _ (by omega) (by omega)
theorem r_heard {Γ : Zg} {M : Zm} {m w : Nat} {P : Pk} (hm : z_r Γ m 0 = w) (h : o_R M w P) (h8 : pN P ≤ 8) : X11_heardOfAll Γ M m = some (o_heard P) := r_heardL hm h h8 (pN P) 1000 0 0 (by omega) (by omega)
theorem c_belL {Γ : Zg} {M : Zm} {a : Nat} {P : Pk} (hP : g_P Γ a) (h : o_C M a P) (h8 : pN P ≤ 8) : ∀ (r f i : Nat) (x : Int32), i + r = pN P → r < f → X3_believedByAll_P4 Γ f M a x (nI i) = some (o_fo (fun i x => x + o_bc (pV P i 2)) r i x)
  | 0, f + 1, i, x, hi, _ => by
    rw [X3_believedByAll_P4, h.1, if_pos (nI_le (by omega) (by omega))]; rfl
  | r + 1, f + 1, i, x, hi, hf => by
    rw [X3_believedByAll_P4, h.1, if_neg (nI_ge (by omega) (by omega)), if_pos (z_ixn (by omega) (by decide)), nI_cl (by omega), hP.1 i (by omega), h.2.2.2.2 i (by omega) 2 (by decide), nI_s]
    exact c_belL hP h h8 r f (i + 1) _ (by omega) (by omega)
theorem c_bel {Γ : Zg} {M : Zm} {a : Nat} {P : Pk} (hP : g_P Γ a) (h : o_C M a P) (h8 : pN P ≤ 8) : X3_believedByAll Γ M a = some (o_bel P) := c_belL hP h h8 (pN P) 1000 0 0 (by omega) (by omega)
theorem r_belL {Γ : Zg} {M : Zm} {m w : Nat} {P : Pk} (hm : z_r Γ m 0 = w) (h : o_R M w P) (ok : o_ok P) : ∀ (r f i : Nat) (x : Int32), i + r = pN P → r < f → X11_believed_P4 Γ f M m x (nI i) = some (o_fo (fun i x => x + o_bc (pV P i 2)) r i x)
  | 0, f + 1, i, x, hi, _ => by
    have h8 := ok.1
    rw [X11_believed_P4, hm, h.1, if_pos (nI_le (by omega) (by omega))]; rfl
  | r + 1, f + 1, i, x, hi, hf => by
    have h8 := ok.1
    obtain ⟨q, hq, eq⟩ := (ok.2.2.2.1 i (by omega)).2.2.1
    have em : X11_many (pV P i 2) = some (o_bc (pV P i 2)) := by rw [eq]; exact t_many q hq
    rw [X11_believed_P4, hm, h.1, if_neg (nI_ge (by omega) (by omega)), r_its (x := 2) hm h h8 (by omega) (j := 2) rfl (by decide), Option.bind_some, em, Option.bind_some, nI_s]
    exact r_belL hm h ok r f (i + 1) _ (by omega) (by omega)
theorem r_bel {Γ : Zg} {M : Zm} {m w : Nat} {P : Pk} (hm : z_r Γ m 0 = w) (h : o_R M w P) (ok : o_ok P) : X11_believed Γ M m = some (o_bel P) := r_belL hm h ok (pN P) 1000 0 0 (by omega) (by have := ok.1; omega)
theorem c_outL {Γ : Zg} {M : Zm} {a : Nat} {P : Pk} (hP : g_P Γ a) (h : o_C M a P) (h8 : pN P ≤ 8) : ∀ (r f i : Nat) (x : Int32), i + r = pN P → r < f → X3_knownToAll_P17 Γ f M a x (nI i) = some (o_fo (fun i x => x &&& pV P i 1) r i x)
  | 0, f + 1, i, x, hi, _ => by
    rw [X3_knownToAll_P17, h.1, if_pos (nI_le (by omega) (by omega))]; rfl
  | r + 1, f + 1, i, x, hi, hf => by
    rw [X3_knownToAll_P17, h.1, if_neg (nI_ge (by omega) (by omega)), if_pos (z_ixn (by omega) (by decide)), nI_cl (by omega), hP.1 i (by omega), h.2.2.2.2 i (by omega) 1 (by decide), nI_s]
    exact c_outL hP h h8 r f (i + 1) _ (by omega) (by omega)
theorem o_n0 {n : Nat} (h : n ≤ 8) : nI n = 0 ↔ n = 0 := by
  have : ∀ n, n ≤ 8 → (nI n = 0 ↔ n = 0) := by decide
  exact this n h
theorem c_out {Γ : Zg} {M : Zm} {a : Nat} {P : Pk} (hP : g_P Γ a) (h : o_C M a P) (h8 : pN P ≤ 8) : X3_knownToAll Γ M a = some (o_out P) := by
  unfold X3_knownToAll o_out
  rw [h.1]
  by_cases c : pN P = 0
  · rw [if_pos ((o_n0 h8).mpr c), if_pos c]
    exact c_outL hP h h8 (pN P) 1000 0 _ (by omega) (by omega)
  · rw [if_neg (fun e => c ((o_n0 h8).mp e)), if_neg c]
    exact c_outL hP h h8 (pN P) 1000 0 _ (by omega) (by omega)
theorem r_outL {Γ : Zg} {M : Zm} {m w : Nat} {P : Pk} (hm : z_r Γ m 0 = w) (h : o_R M w P) (h8 : pN P ≤ 8) : ∀ (r f i : Nat) (x : Int32), i + r = pN P → r < f → X11_outNow_P19 Γ f M m x (nI i) = some (o_fo (fun i x => x &&& pV P i 1) r i x)
  | 0, f + 1, i, x, hi, _ => by
    rw [X11_outNow_P19, hm, h.1, if_pos (nI_le (by omega) (by omega))]; rfl
  | r + 1, f + 1, i, x, hi, hf => by
    rw [X11_outNow_P19, hm, h.1, if_neg (nI_ge (by omega) (by omega)), r_its (x := 1) hm h h8 (by omega) (j := 1) rfl (by decide), Option.bind_some, nI_s]
    exact r_outL hm h h8 r f (i + 1) _ (by omega) (by omega)
theorem r_out {Γ : Zg} {M : Zm} {m w : Nat} {P : Pk} (hm : z_r Γ m 0 = w) (h : o_R M w P) (h8 : pN P ≤ 8) : X11_outNow Γ M m = some (o_out P) := by
  unfold X11_outNow o_out
  rw [hm, h.1]
  by_cases c : pN P = 0
  · rw [if_pos ((o_n0 h8).mpr c), if_pos c]
    exact r_outL hm h h8 (pN P) 1000 0 _ (by omega) (by omega)
  · rw [if_neg (fun e => c ((o_n0 h8).mp e)), if_neg c]
    exact r_outL hm h h8 (pN P) 1000 0 _ (by omega) (by omega)
theorem c_kntL {Γ : Zg} {M : Zm} {a : Nat} {P : Pk} (hP : g_P Γ a) (h : o_C M a P) (h8 : pN P ≤ 8) (k : Int32) : ∀ (r f i : Nat) (x : Int32), i + r = pN P → r < f → X3_knownTo_P4 Γ f M a k x (nI i) = some (o_fo (fun i x => x + ((pV P i 1 >>> (k &&& 31)) &&& 1)) r i x)
  | 0, f + 1, i, x, hi, _ => by
    rw [X3_knownTo_P4, h.1, if_pos (nI_le (by omega) (by omega))]; rfl
  | r + 1, f + 1, i, x, hi, hf => by
    rw [X3_knownTo_P4, h.1, if_neg (nI_ge (by omega) (by omega)), if_pos (z_ixn (by omega) (by decide)), nI_cl (by omega), hP.1 i (by omega), h.2.2.2.2 i (by omega) 1 (by decide), nI_s]
    exact c_kntL hP h h8 k r f (i + 1) _ (by omega) (by omega)
theorem c_knt {Γ : Zg} {M : Zm} {a : Nat} {P : Pk} (hP : g_P Γ a) (h : o_C M a P) (h8 : pN P ≤ 8) (k : Int32) : X3_knownTo Γ M a k = some (o_knt P k) := c_kntL hP h h8 k (pN P) 1000 0 0 (by omega) (by omega)
theorem r_kntL {Γ : Zg} {M : Zm} {m w : Nat} {P : Pk} (hm : z_r Γ m 0 = w) (h : o_R M w P) (h8 : pN P ≤ 8) (k : Int32) : ∀ (r f i : Nat) (x : Int32), i + r = pN P → r < f → X11_howManyKnow_P4 Γ f M m k x (nI i) = some (o_fo (fun i x => x + ((pV P i 1 >>> (k &&& 31)) &&& 1)) r i x)
  | 0, f + 1, i, x, hi, _ => by
    rw [X11_howManyKnow_P4, hm, h.1, if_pos (nI_le (by omega) (by omega))]; rfl
  | r + 1, f + 1, i, x, hi, hf => by
    rw [X11_howManyKnow_P4, hm, h.1, if_neg (nI_ge (by omega) (by omega)), r_its (x := 1) hm h h8 (by omega) (j := 1) rfl (by decide), Option.bind_some, nI_s]
    exact r_kntL hm h h8 k r f (i + 1) _ (by omega) (by omega)
theorem r_knt {Γ : Zg} {M : Zm} {m w : Nat} {P : Pk} (hm : z_r Γ m 0 = w) (h : o_R M w P) (h8 : pN P ≤ 8) (k : Int32) : X11_howManyKnow Γ M m k = some (o_knt P k) := r_kntL hm h h8 k (pN P) 1000 0 0 (by omega) (by omega)
theorem c_vis {Γ : Zg} {a : Nat} (hP : g_P Γ a) {i : Nat} (hi : i < 8) : X3_visitor Γ a (nI i) = some (a + 2 + i) := by
  unfold X3_visitor
  rw [if_pos (z_ixn hi (by decide)), nI_cl (by omega), hP.1 i hi]
theorem c_whoL {Γ : Zg} {M : Zm} {l a : Nat} {P : Pk} (hl : z_r Γ l 0 = a) (hP : g_P Γ a) (h : o_C M a P) (h8 : pN P ≤ 8) (k v : Int32) : ∀ (r f i : Nat) (x : Int32), i + r = pN P → r < f → X10_who_P28 Γ f M l k v x (nI i) = some (o_fo (fun i x => x ||| (((pV P i (if v = 0 then 1 else 2) >>> (k &&& 31)) &&& 1) <<< (nI i &&& 31))) r i x, M)
  | 0, f + 1, i, x, hi, _ => by
    rw [X10_who_P28, hl, h.1, if_pos (nI_le (by omega) (by omega))]; rfl
  | r + 1, f + 1, i, x, hi, hf => by
    rw [X10_who_P28, hl, h.1, if_neg (nI_ge (by omega) (by omega)), c_vis hP (by omega), Option.bind_some, h.2.2.2.2 i (by omega) 1 (by decide), h.2.2.2.2 i (by omega) 2 (by decide), nI_s]
    have := c_whoL hl hP h h8 k v r f (i + 1)
    by_cases c : v = 0
    · simp only [if_pos c, o_fo] at this ⊢
      exact this _ (by omega) (by omega)
    · simp only [if_neg c, o_fo] at this ⊢
      exact this _ (by omega) (by omega)
theorem r_whoL {Γ : Zg} {M : Zm} {m w : Nat} {P : Pk} (hm : z_r Γ m 0 = w) (h : o_R M w P) (h8 : pN P ≤ 8) (k v : Int32) : ∀ (r f i : Nat) (x : Int32), i + r = pN P → r < f → X11_who_P29 Γ f M m k v x (nI i) = some (o_fo (fun i x => x ||| (((pV P i (if v = 0 then 1 else 2) >>> (k &&& 31)) &&& 1) <<< (nI i &&& 31))) r i x, M)
  | 0, f + 1, i, x, hi, _ => by
    rw [X11_who_P29, hm, h.1, if_pos (nI_le (by omega) (by omega))]; rfl
  | r + 1, f + 1, i, x, hi, hf => by
    rw [X11_who_P29, hm, h.1, if_neg (nI_ge (by omega) (by omega)), r_its (x := 1) hm h h8 (by omega) (j := 1) rfl (by decide), r_its (x := 2) hm h h8 (by omega) (j := 2) rfl (by decide), Option.bind_some, Option.bind_some, nI_s]
    have := r_whoL hm h h8 k v r f (i + 1)
    by_cases c : v = 0
    · simp only [if_pos c, o_fo] at this ⊢
      exact this _ (by omega) (by omega)
    · simp only [if_neg c, o_fo] at this ⊢
      exact this _ (by omega) (by omega)
