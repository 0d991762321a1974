def g_K : List Nat := [10, 14, 4, 0, 1, 9, 2, 6, 3, 16, 8, 8, 8, 8, 8, 8, 8, 8, 3, 16, 8, 8, 8, 8, 8, 8, 8, 8, 3, 16, 8, 8, 8, 8, 8, 8, 8, 8, 7, 12, 15, 5, 13, 5, 13, 5, 13, 5, 13, 12, 12, 11, 12, 12, 12, 12, 12, 12, 12, 12, 13]
def g_N : List Nat := [0, 6, 0, 0, 0, 0, 0, 0, 0, 8, 0, 0, 0, 0, 0, 0, 0, 0, 0, 8, 0, 0, 0, 0, 0, 0, 0, 0, 0, 8, 0, 0, 0, 0, 0, 0, 0, 0, 0, 120, 4, 0, 40, 0, 40, 0, 40, 0, 40, 7, 10, 0, 52, 52, 52, 52, 8, 120, 4, 4, 160]
def g_R : List (List Nat) := [[8, 18, 28, 0, 38, 40, 49, 50], [2, 3, 4, 5, 6, 7], [], [], [], [], [], [], [1, 9, 0, 0, 0, 0], [10, 11, 12, 13, 14, 15, 16, 17], [], [], [], [], [], [], [], [], [1, 19, 0, 0, 0, 0], [20, 21, 22, 23, 24, 25, 26, 27], [], [], [], [], [], [], [], [], [1, 29, 0, 0, 0, 0], [30, 31, 32, 33, 34, 35, 36, 37], [], [], [], [], [], [], [], [], [39, 0, 0, 0, 0, 0], [], [41, 43, 45, 47], [42, 0, 0], [], [44, 0, 0], [], [46, 0, 0], [], [48, 0, 0], [], [], [], [52, 53, 54, 55, 0, 56, 57, 0, 58, 59, 60, 0, 0, 0, 0, 0], [], [], [], [], [], [], [], [], []]
def g_I : List (List Int32) := [[], [], [], [], [], [], [], [], [0, 0, 0, 0, 0, -1], [], [], [], [], [], [], [], [], [], [0, 0, 0, 0, 0, -1], [], [], [], [], [], [], [], [], [], [0, 0, 0, 0, 0, -1], [], [], [], [], [], [], [], [], [], [], [], [], [], [], [], [], [], [], [], [], [], [], [], [0, 0, 0, -1], [], [], [], [], [], [-1, -1, -1, -1], [], []]
/-- the geometry that the constructors lay: cells sz, sz+1, .. sz+60 -/
def g_0 (D : va_G) (C : Nat → ClassId) (sz : Nat) (sK sV : Nat → Nat) (t : Nat) : Zg := (D, C, (List.range 61).map (fun k => sz + k), (fun a => g_K.getD (a - sz) 0), (fun a => g_N.getD (a - sz) 0), (fun a j => sz + (g_R.getD (a - sz) []).getD j 0), sK, sV, t)
def g_M (sz : Nat) : Zm := (fun a j => (g_I.getD (a - sz) []).getD j 0, fun _ _ => 0)
/-- what the pure parts know of the geometry -/
def g_Ok (Γ : Zg) (sz : Nat) : Prop := ∀ k, k < 61 → z_k Γ (sz + k) = g_K.getD k 0 ∧ ∀ j, z_r Γ (sz + k) j = sz + (g_R.getD k []).getD j 0
section GEO
variable {D : va_G} {C : Nat → ClassId} {sz : Nat} {sK sV : Nat → Nat} {t : Nat}
theorem g_k (k : Nat) : z_k (g_0 D C sz sK sV t) (sz + k) = g_K.getD k 0 := by show g_K.getD (sz + k - sz) 0 = _; rw [Nat.add_sub_cancel_left]
theorem g_n (k : Nat) : z_n (g_0 D C sz sK sV t) (sz + k) = g_N.getD k 0 := by show g_N.getD (sz + k - sz) 0 = _; rw [Nat.add_sub_cancel_left]
theorem g_r (k j : Nat) : z_r (g_0 D C sz sK sV t) (sz + k) j = sz + (g_R.getD k []).getD j 0 := by show sz + (g_R.getD (sz + k - sz) []).getD j 0 = _; rw [Nat.add_sub_cancel_left]
theorem g_m (k : Nat) : (g_M sz).1 (sz + k) = fun j => (g_I.getD k []).getD j 0 := by funext j; show (g_I.getD (sz + k - sz) []).getD j 0 = _; rw [Nat.add_sub_cancel_left]
theorem g_ok : g_Ok (g_0 D C sz sK sV t) sz := fun k _ => ⟨g_k k, g_r k⟩
theorem g_is {kk k : Nat} : z_Is (g_0 D C sz sK sV t) kk (sz + k) ↔ k < 61 ∧ g_K.getD k 0 = kk := by
  unfold z_Is
  rw [g_k]
  show sz + k ∈ (List.range 61).map (fun k => sz + k) ∧ _ ↔ _
  refine ⟨fun h => ⟨?_, h.2⟩, fun h => ⟨List.mem_map.mpr ⟨k, List.mem_range.mpr h.1, rfl⟩, h.2⟩⟩
  obtain ⟨j, hj, e⟩ := List.mem_map.mp h.1
  have := List.mem_range.mp hj
  have : sz + j = sz + k := e
  omega
theorem g_of {kk a : Nat} (h : z_Is (g_0 D C sz sK sV t) kk a) : ∃ k, a = sz + k ∧ k < 61 ∧ g_K.getD k 0 = kk := by
  obtain ⟨j, hj, e⟩ := List.mem_map.mp (show a ∈ (List.range 61).map (fun k => sz + k) from h.1)
  have e : sz + j = a := e
  subst e
  exact ⟨j, rfl, g_is.mp h⟩
theorem g_ia {kk n k : Nat} : z_Ia (g_0 D C sz sK sV t) kk n (sz + k) ↔ (k < 61 ∧ g_K.getD k 0 = kk) ∧ g_N.getD k 0 = n := by
  unfold z_Ia
  rw [g_is, g_n]
theorem g_ip {k : Nat} : z_Ip (g_0 D C sz sK sV t) (sz + k) ↔ k < 61 ∧ (g_K.getD k 0 = 4 ∨ g_K.getD k 0 = 0 ∨ g_K.getD k 0 = 1 ∨ g_K.getD k 0 = 9 ∨ g_K.getD k 0 = 2 ∨ g_K.getD k 0 = 6) := by
  unfold z_Ip
  simp only [g_is]
  constructor
  · rintro (h | h | h | h | h | h)
    · exact ⟨h.1, Or.inl h.2⟩
    · exact ⟨h.1, Or.inr (Or.inl h.2)⟩
    · exact ⟨h.1, Or.inr (Or.inr (Or.inl h.2))⟩
    · exact ⟨h.1, Or.inr (Or.inr (Or.inr (Or.inl h.2)))⟩
    · exact ⟨h.1, Or.inr (Or.inr (Or.inr (Or.inr (Or.inl h.2))))⟩
    · exact ⟨h.1, Or.inr (Or.inr (Or.inr (Or.inr (Or.inr h.2))))⟩
  · rintro ⟨h, g | g | g | g | g | g⟩
    · exact Or.inl ⟨h, g⟩
    · exact Or.inr (Or.inl ⟨h, g⟩)
    · exact Or.inr (Or.inr (Or.inl ⟨h, g⟩))
    · exact Or.inr (Or.inr (Or.inr (Or.inl ⟨h, g⟩)))
    · exact Or.inr (Or.inr (Or.inr (Or.inr (Or.inl ⟨h, g⟩))))
    · exact Or.inr (Or.inr (Or.inr (Or.inr (Or.inr ⟨h, g⟩))))
theorem g_d3_0 : ∀ k, k < 61 → g_K.getD k 0 = 3 → (((g_R.getD k []).getD 0 0 < 61 ∧ g_K.getD ((g_R.getD k []).getD 0 0) 0 = 14) ∧ g_N.getD ((g_R.getD k []).getD 0 0) 0 = 6) := by decide +kernel
theorem g_d3_1 : ∀ k, k < 61 → g_K.getD k 0 = 3 → (((g_R.getD k []).getD 1 0 < 61 ∧ g_K.getD ((g_R.getD k []).getD 1 0) 0 = 16) ∧ g_N.getD ((g_R.getD k []).getD 1 0) 0 = 8) := by decide +kernel
theorem g_d5_0 : ∀ k, k < 61 → g_K.getD k 0 = 5 → (((g_R.getD k []).getD 0 0 < 61 ∧ g_K.getD ((g_R.getD k []).getD 0 0) 0 = 13) ∧ g_N.getD ((g_R.getD k []).getD 0 0) 0 = 40) := by decide +kernel
theorem g_d7_0 : ∀ k, k < 61 → g_K.getD k 0 = 7 → (((g_R.getD k []).getD 0 0 < 61 ∧ g_K.getD ((g_R.getD k []).getD 0 0) 0 = 12) ∧ g_N.getD ((g_R.getD k []).getD 0 0) 0 = 120) := by decide +kernel
theorem g_d10_0 : ∀ k, k < 61 → g_K.getD k 0 = 10 → ((g_R.getD k []).getD 0 0 < 61 ∧ g_K.getD ((g_R.getD k []).getD 0 0) 0 = 3) := by decide +kernel
theorem g_d10_1 : ∀ k, k < 61 → g_K.getD k 0 = 10 → ((g_R.getD k []).getD 1 0 < 61 ∧ g_K.getD ((g_R.getD k []).getD 1 0) 0 = 3) := by decide +kernel
theorem g_d10_2 : ∀ k, k < 61 → g_K.getD k 0 = 10 → ((g_R.getD k []).getD 2 0 < 61 ∧ g_K.getD ((g_R.getD k []).getD 2 0) 0 = 3) := by decide +kernel
theorem g_d10_3 : ∀ k, k < 61 → g_K.getD k 0 = 10 → ((g_R.getD k []).getD 4 0 < 61 ∧ g_K.getD ((g_R.getD k []).getD 4 0) 0 = 7) := by decide +kernel
theorem g_d10_4 : ∀ k, k < 61 → g_K.getD k 0 = 10 → (((g_R.getD k []).getD 5 0 < 61 ∧ g_K.getD ((g_R.getD k []).getD 5 0) 0 = 15) ∧ g_N.getD ((g_R.getD k []).getD 5 0) 0 = 4) := by decide +kernel
theorem g_d10_5 : ∀ k, k < 61 → g_K.getD k 0 = 10 → (((g_R.getD k []).getD 6 0 < 61 ∧ g_K.getD ((g_R.getD k []).getD 6 0) 0 = 12) ∧ g_N.getD ((g_R.getD k []).getD 6 0) 0 = 7) := by decide +kernel
theorem g_d10_6 : ∀ k, k < 61 → g_K.getD k 0 = 10 → (((g_R.getD k []).getD 7 0 < 61 ∧ g_K.getD ((g_R.getD k []).getD 7 0) 0 = 12) ∧ g_N.getD ((g_R.getD k []).getD 7 0) 0 = 10) := by decide +kernel
theorem g_d11_0 : ∀ k, k < 61 → g_K.getD k 0 = 11 → (((g_R.getD k []).getD 0 0 < 61 ∧ g_K.getD ((g_R.getD k []).getD 0 0) 0 = 12) ∧ g_N.getD ((g_R.getD k []).getD 0 0) 0 = 52) := by decide +kernel
theorem g_d11_1 : ∀ k, k < 61 → g_K.getD k 0 = 11 → (((g_R.getD k []).getD 1 0 < 61 ∧ g_K.getD ((g_R.getD k []).getD 1 0) 0 = 12) ∧ g_N.getD ((g_R.getD k []).getD 1 0) 0 = 52) := by decide +kernel
theorem g_d11_2 : ∀ k, k < 61 → g_K.getD k 0 = 11 → (((g_R.getD k []).getD 2 0 < 61 ∧ g_K.getD ((g_R.getD k []).getD 2 0) 0 = 12) ∧ g_N.getD ((g_R.getD k []).getD 2 0) 0 = 52) := by decide +kernel
theorem g_d11_3 : ∀ k, k < 61 → g_K.getD k 0 = 11 → (((g_R.getD k []).getD 3 0 < 61 ∧ g_K.getD ((g_R.getD k []).getD 3 0) 0 = 12) ∧ g_N.getD ((g_R.getD k []).getD 3 0) 0 = 52) := by decide +kernel
theorem g_d11_4 : ∀ k, k < 61 → g_K.getD k 0 = 11 → (((g_R.getD k []).getD 5 0 < 61 ∧ g_K.getD ((g_R.getD k []).getD 5 0) 0 = 12) ∧ g_N.getD ((g_R.getD k []).getD 5 0) 0 = 8) := by decide +kernel
theorem g_d11_5 : ∀ k, k < 61 → g_K.getD k 0 = 11 → (((g_R.getD k []).getD 6 0 < 61 ∧ g_K.getD ((g_R.getD k []).getD 6 0) 0 = 12) ∧ g_N.getD ((g_R.getD k []).getD 6 0) 0 = 120) := by decide +kernel
theorem g_d11_6 : ∀ k, k < 61 → g_K.getD k 0 = 11 → (((g_R.getD k []).getD 8 0 < 61 ∧ g_K.getD ((g_R.getD k []).getD 8 0) 0 = 12) ∧ g_N.getD ((g_R.getD k []).getD 8 0) 0 = 4) := by decide +kernel
theorem g_d11_7 : ∀ k, k < 61 → g_K.getD k 0 = 11 → (((g_R.getD k []).getD 9 0 < 61 ∧ g_K.getD ((g_R.getD k []).getD 9 0) 0 = 12) ∧ g_N.getD ((g_R.getD k []).getD 9 0) 0 = 4) := by decide +kernel
theorem g_d11_8 : ∀ k, k < 61 → g_K.getD k 0 = 11 → (((g_R.getD k []).getD 10 0 < 61 ∧ g_K.getD ((g_R.getD k []).getD 10 0) 0 = 13) ∧ g_N.getD ((g_R.getD k []).getD 10 0) 0 = 160) := by decide +kernel
theorem g_d14 : ∀ k, k < 61 → g_K.getD k 0 = 14 → ∀ j, j < g_N.getD k 0 → (g_R.getD k []).getD j 0 < 61 ∧ (g_K.getD ((g_R.getD k []).getD j 0) 0 = 4 ∨ g_K.getD ((g_R.getD k []).getD j 0) 0 = 0 ∨ g_K.getD ((g_R.getD k []).getD j 0) 0 = 1 ∨ g_K.getD ((g_R.getD k []).getD j 0) 0 = 9 ∨ g_K.getD ((g_R.getD k []).getD j 0) 0 = 2 ∨ g_K.getD ((g_R.getD k []).getD j 0) 0 = 6) := by decide +kernel
theorem g_d15 : ∀ k, k < 61 → g_K.getD k 0 = 15 → ∀ j, j < g_N.getD k 0 → (g_R.getD k []).getD j 0 < 61 ∧ g_K.getD ((g_R.getD k []).getD j 0) 0 = 5 := by decide +kernel
theorem g_d16 : ∀ k, k < 61 → g_K.getD k 0 = 16 → ∀ j, j < g_N.getD k 0 → (g_R.getD k []).getD j 0 < 61 ∧ g_K.getD ((g_R.getD k []).getD j 0) 0 = 8 := by decide +kernel
theorem g_gk : z_Gk (g_0 D C sz sK sV t) := by
  refine ⟨?_, ?_, ?_, ?_, ?_, ?_, ?_, ?_⟩
  · intro a ha
    obtain ⟨k, rfl, h1, h2⟩ := g_of ha
    exact ⟨(by rw [g_r]; exact g_ia.mpr (g_d3_0 k h1 h2)), (by rw [g_r]; exact g_ia.mpr (g_d3_1 k h1 h2))⟩
  · intro a ha
    obtain ⟨k, rfl, h1, h2⟩ := g_of ha
    exact (by rw [g_r]; exact g_ia.mpr (g_d5_0 k h1 h2))
  · intro a ha
    obtain ⟨k, rfl, h1, h2⟩ := g_of ha
    exact (by rw [g_r]; exact g_ia.mpr (g_d7_0 k h1 h2))
  · intro a ha
    obtain ⟨k, rfl, h1, h2⟩ := g_of ha
    exact ⟨(by rw [g_r]; exact g_is.mpr (g_d10_0 k h1 h2)), (by rw [g_r]; exact g_is.mpr (g_d10_1 k h1 h2)), (by rw [g_r]; exact g_is.mpr (g_d10_2 k h1 h2)), (by rw [g_r]; exact g_is.mpr (g_d10_3 k h1 h2)), (by rw [g_r]; exact g_ia.mpr (g_d10_4 k h1 h2)), (by rw [g_r]; exact g_ia.mpr (g_d10_5 k h1 h2)), (by rw [g_r]; exact g_ia.mpr (g_d10_6 k h1 h2))⟩
  · intro a ha
    obtain ⟨k, rfl, h1, h2⟩ := g_of ha
    exact ⟨(by rw [g_r]; exact g_ia.mpr (g_d11_0 k h1 h2)), (by rw [g_r]; exact g_ia.mpr (g_d11_1 k h1 h2)), (by rw [g_r]; exact g_ia.mpr (g_d11_2 k h1 h2)), (by rw [g_r]; exact g_ia.mpr (g_d11_3 k h1 h2)), (by rw [g_r]; exact g_ia.mpr (g_d11_4 k h1 h2)), (by rw [g_r]; exact g_ia.mpr (g_d11_5 k h1 h2)), (by rw [g_r]; exact g_ia.mpr (g_d11_6 k h1 h2)), (by rw [g_r]; exact g_ia.mpr (g_d11_7 k h1 h2)), (by rw [g_r]; exact g_ia.mpr (g_d11_8 k h1 h2))⟩
  · intro a ha j hj
    obtain ⟨k, rfl, h1, h2⟩ := g_of ha
    rw [g_n] at hj
    rw [g_r]
    exact g_ip.mpr (g_d14 k h1 h2 j hj)
  · intro a ha j hj
    obtain ⟨k, rfl, h1, h2⟩ := g_of ha
    rw [g_n] at hj
    rw [g_r]
    exact g_is.mpr (g_d15 k h1 h2 j hj)
  · intro a ha j hj
    obtain ⟨k, rfl, h1, h2⟩ := g_of ha
    rw [g_n] at hj
    rw [g_r]
    exact g_is.mpr (g_d16 k h1 h2 j hj)
theorem g_cong {cA : ClassId} {n : Nat} {f g : Nat → Value} (h : ∀ j, j < n → f j = g j) : arrV cA n f = arrV cA n g := by
  unfold arrV
  congr 2
  funext j
  exact h j.val j.isLt
def g_F (sz : Nat) (C : Nat → ClassId) : Nat → va_E := j11_51_23 sz C (va_up (j10_0_44 sz C (va_up (fun _ => .inr (0, [])) 0 (.inr (10, [.null, .null, .null, .int 0, .null, .null, .null, .null])))) 51 (.inr (11, [.null, .null, .null, .null, .int 0, .null, .null, .int 0, .null, .null, .null, .int 0, .int 0, .int 0, .int 0, .int 0])))
set_option maxRecDepth 100000 in
theorem gw_0 {H : Heap} (h : va_at D vwCl (sz + 0, g_F sz C 0) H) : va_at D vwCl (sz + 0, z_wc (g_0 D C sz sK sV t) (g_M sz) (sz + 0)) H := by
  rw [z_wc10 (g_k 0)]
  try simp only [g_r, g_m]
  exact h
set_option maxRecDepth 100000 in
theorem gw_1 {H : Heap} (h : va_at D vwCl (sz + 1, g_F sz C 1) H) : va_at D vwCl (sz + 1, z_wc (g_0 D C sz sK sV t) (g_M sz) (sz + 1)) H := by
  rw [z_wc14 (g_k 1)]
  have h1 : H[sz + 1]? = some (vp_cell _ _) := h
  show H[sz + 1]? = some (vp_cell _ _)
  rw [h1, vp_cell_q, vp_cell_q, g_n]
  refine congrArg some (g_cong fun j hj => ?_)
  have hj : j < 6 := hj
  rw [g_r]
  rcases (show j = 0 ∨ j = 1 ∨ j = 2 ∨ j = 3 ∨ j = 4 ∨ j = 5 by omega) with rfl | rfl | rfl | rfl | rfl | rfl <;> rfl
set_option maxRecDepth 100000 in
theorem gw_2 {H : Heap} (h : va_at D vwCl (sz + 2, g_F sz C 2) H) : va_at D vwCl (sz + 2, z_wc (g_0 D C sz sK sV t) (g_M sz) (sz + 2)) H := by
  rw [z_wc4 (g_k 2)]
  try simp only [g_r, g_m]
  exact h
set_option maxRecDepth 100000 in
theorem gw_3 {H : Heap} (h : va_at D vwCl (sz + 3, g_F sz C 3) H) : va_at D vwCl (sz + 3, z_wc (g_0 D C sz sK sV t) (g_M sz) (sz + 3)) H := by
  rw [z_wc0 (g_k 3)]
  try simp only [g_r, g_m]
  exact h
set_option maxRecDepth 100000 in
theorem gw_4 {H : Heap} (h : va_at D vwCl (sz + 4, g_F sz C 4) H) : va_at D vwCl (sz + 4, z_wc (g_0 D C sz sK sV t) (g_M sz) (sz + 4)) H := by
  rw [z_wc1 (g_k 4)]
  try simp only [g_r, g_m]
  exact h
set_option maxRecDepth 100000 in
theorem gw_5 {H : Heap} (h : va_at D vwCl (sz + 5, g_F sz C 5) H) : va_at D vwCl (sz + 5, z_wc (g_0 D C sz sK sV t) (g_M sz) (sz + 5)) H := by
  rw [z_wc9 (g_k 5)]
  try simp only [g_r, g_m]
  exact h
set_option maxRecDepth 100000 in
theorem gw_6 {H : Heap} (h : va_at D vwCl (sz + 6, g_F sz C 6) H) : va_at D vwCl (sz + 6, z_wc (g_0 D C sz sK sV t) (g_M sz) (sz + 6)) H := by
  rw [z_wc2 (g_k 6)]
  try simp only [g_r, g_m]
  exact h
set_option maxRecDepth 100000 in
theorem gw_7 {H : Heap} (h : va_at D vwCl (sz + 7, g_F sz C 7) H) : va_at D vwCl (sz + 7, z_wc (g_0 D C sz sK sV t) (g_M sz) (sz + 7)) H := by
  rw [z_wc6 (g_k 7)]
  try simp only [g_r, g_m]
  exact h
set_option maxRecDepth 100000 in
theorem gw_8 {H : Heap} (h : va_at D vwCl (sz + 8, g_F sz C 8) H) : va_at D vwCl (sz + 8, z_wc (g_0 D C sz sK sV t) (g_M sz) (sz + 8)) H := by
  rw [z_wc3 (g_k 8)]
  try simp only [g_r, g_m]
  exact h
set_option maxRecDepth 100000 in
theorem gw_9 {H : Heap} (h : va_at D vwCl (sz + 9, g_F sz C 9) H) : va_at D vwCl (sz + 9, z_wc (g_0 D C sz sK sV t) (g_M sz) (sz + 9)) H := by
  rw [z_wc16 (g_k 9)]
  have h1 : H[sz + 9]? = some (vp_cell _ _) := h
  show H[sz + 9]? = some (vp_cell _ _)
  rw [h1, vp_cell_q, vp_cell_q, g_n]
  refine congrArg some (g_cong fun j hj => ?_)
  have hj : j < 8 := hj
  rw [g_r]
  rcases (show j = 0 ∨ j = 1 ∨ j = 2 ∨ j = 3 ∨ j = 4 ∨ j = 5 ∨ j = 6 ∨ j = 7 by omega) with rfl | rfl | rfl | rfl | rfl | rfl | rfl | rfl <;> rfl
set_option maxRecDepth 100000 in
theorem gw_10 {H : Heap} (h : va_at D vwCl (sz + 10, g_F sz C 10) H) : va_at D vwCl (sz + 10, z_wc (g_0 D C sz sK sV t) (g_M sz) (sz + 10)) H := by
  rw [z_wc8 (g_k 10)]
  try simp only [g_r, g_m]
  exact h
set_option maxRecDepth 100000 in
theorem gw_11 {H : Heap} (h : va_at D vwCl (sz + 11, g_F sz C 11) H) : va_at D vwCl (sz + 11, z_wc (g_0 D C sz sK sV t) (g_M sz) (sz + 11)) H := by
  rw [z_wc8 (g_k 11)]
  try simp only [g_r, g_m]
  exact h
set_option maxRecDepth 100000 in
theorem gw_12 {H : Heap} (h : va_at D vwCl (sz + 12, g_F sz C 12) H) : va_at D vwCl (sz + 12, z_wc (g_0 D C sz sK sV t) (g_M sz) (sz + 12)) H := by
  rw [z_wc8 (g_k 12)]
  try simp only [g_r, g_m]
  exact h
set_option maxRecDepth 100000 in
theorem gw_13 {H : Heap} (h : va_at D vwCl (sz + 13, g_F sz C 13) H) : va_at D vwCl (sz + 13, z_wc (g_0 D C sz sK sV t) (g_M sz) (sz + 13)) H := by
  rw [z_wc8 (g_k 13)]
  try simp only [g_r, g_m]
  exact h
set_option maxRecDepth 100000 in
theorem gw_14 {H : Heap} (h : va_at D vwCl (sz + 14, g_F sz C 14) H) : va_at D vwCl (sz + 14, z_wc (g_0 D C sz sK sV t) (g_M sz) (sz + 14)) H := by
  rw [z_wc8 (g_k 14)]
  try simp only [g_r, g_m]
  exact h
set_option maxRecDepth 100000 in
theorem gw_15 {H : Heap} (h : va_at D vwCl (sz + 15, g_F sz C 15) H) : va_at D vwCl (sz + 15, z_wc (g_0 D C sz sK sV t) (g_M sz) (sz + 15)) H := by
  rw [z_wc8 (g_k 15)]
  try simp only [g_r, g_m]
  exact h
set_option maxRecDepth 100000 in
theorem gw_16 {H : Heap} (h : va_at D vwCl (sz + 16, g_F sz C 16) H) : va_at D vwCl (sz + 16, z_wc (g_0 D C sz sK sV t) (g_M sz) (sz + 16)) H := by
  rw [z_wc8 (g_k 16)]
  try simp only [g_r, g_m]
  exact h
set_option maxRecDepth 100000 in
theorem gw_17 {H : Heap} (h : va_at D vwCl (sz + 17, g_F sz C 17) H) : va_at D vwCl (sz + 17, z_wc (g_0 D C sz sK sV t) (g_M sz) (sz + 17)) H := by
  rw [z_wc8 (g_k 17)]
  try simp only [g_r, g_m]
  exact h
set_option maxRecDepth 100000 in
theorem gw_18 {H : Heap} (h : va_at D vwCl (sz + 18, g_F sz C 18) H) : va_at D vwCl (sz + 18, z_wc (g_0 D C sz sK sV t) (g_M sz) (sz + 18)) H := by
  rw [z_wc3 (g_k 18)]
  try simp only [g_r, g_m]
  exact h
set_option maxRecDepth 100000 in
theorem gw_19 {H : Heap} (h : va_at D vwCl (sz + 19, g_F sz C 19) H) : va_at D vwCl (sz + 19, z_wc (g_0 D C sz sK sV t) (g_M sz) (sz + 19)) H := by
  rw [z_wc16 (g_k 19)]
  have h1 : H[sz + 19]? = some (vp_cell _ _) := h
  show H[sz + 19]? = some (vp_cell _ _)
  rw [h1, vp_cell_q, vp_cell_q, g_n]
  refine congrArg some (g_cong fun j hj => ?_)
  have hj : j < 8 := hj
  rw [g_r]
  rcases (show j = 0 ∨ j = 1 ∨ j = 2 ∨ j = 3 ∨ j = 4 ∨ j = 5 ∨ j = 6 ∨ j = 7 by omega) with rfl | rfl | rfl | rfl | rfl | rfl | rfl | rfl <;> rfl
set_option maxRecDepth 100000 in
theorem gw_20 {H : Heap} (h : va_at D vwCl (sz + 20, g_F sz C 20) H) : va_at D vwCl (sz + 20, z_wc (g_0 D C sz sK sV t) (g_M sz) (sz + 20)) H := by
  rw [z_wc8 (g_k 20)]
  try simp only [g_r, g_m]
  exact h
set_option maxRecDepth 100000 in
theorem gw_21 {H : Heap} (h : va_at D vwCl (sz + 21, g_F sz C 21) H) : va_at D vwCl (sz + 21, z_wc (g_0 D C sz sK sV t) (g_M sz) (sz + 21)) H := by
  rw [z_wc8 (g_k 21)]
  try simp only [g_r, g_m]
  exact h
set_option maxRecDepth 100000 in
theorem gw_22 {H : Heap} (h : va_at D vwCl (sz + 22, g_F sz C 22) H) : va_at D vwCl (sz + 22, z_wc (g_0 D C sz sK sV t) (g_M sz) (sz + 22)) H := by
  rw [z_wc8 (g_k 22)]
  try simp only [g_r, g_m]
  exact h
set_option maxRecDepth 100000 in
theorem gw_23 {H : Heap} (h : va_at D vwCl (sz + 23, g_F sz C 23) H) : va_at D vwCl (sz + 23, z_wc (g_0 D C sz sK sV t) (g_M sz) (sz + 23)) H := by
  rw [z_wc8 (g_k 23)]
  try simp only [g_r, g_m]
  exact h
set_option maxRecDepth 100000 in
theorem gw_24 {H : Heap} (h : va_at D vwCl (sz + 24, g_F sz C 24) H) : va_at D vwCl (sz + 24, z_wc (g_0 D C sz sK sV t) (g_M sz) (sz + 24)) H := by
  rw [z_wc8 (g_k 24)]
  try simp only [g_r, g_m]
  exact h
set_option maxRecDepth 100000 in
theorem gw_25 {H : Heap} (h : va_at D vwCl (sz + 25, g_F sz C 25) H) : va_at D vwCl (sz + 25, z_wc (g_0 D C sz sK sV t) (g_M sz) (sz + 25)) H := by
  rw [z_wc8 (g_k 25)]
  try simp only [g_r, g_m]
  exact h
set_option maxRecDepth 100000 in
theorem gw_26 {H : Heap} (h : va_at D vwCl (sz + 26, g_F sz C 26) H) : va_at D vwCl (sz + 26, z_wc (g_0 D C sz sK sV t) (g_M sz) (sz + 26)) H := by
  rw [z_wc8 (g_k 26)]
  try simp only [g_r, g_m]
  exact h
set_option maxRecDepth 100000 in
theorem gw_27 {H : Heap} (h : va_at D vwCl (sz + 27, g_F sz C 27) H) : va_at D vwCl (sz + 27, z_wc (g_0 D C sz sK sV t) (g_M sz) (sz + 27)) H := by
  rw [z_wc8 (g_k 27)]
  try simp only [g_r, g_m]
  exact h
set_option maxRecDepth 100000 in
theorem gw_28 {H : Heap} (h : va_at D vwCl (sz + 28, g_F sz C 28) H) : va_at D vwCl (sz + 28, z_wc (g_0 D C sz sK sV t) (g_M sz) (sz + 28)) H := by
  rw [z_wc3 (g_k 28)]
  try simp only [g_r, g_m]
  exact h
set_option maxRecDepth 100000 in
theorem gw_29 {H : Heap} (h : va_at D vwCl (sz + 29, g_F sz C 29) H) : va_at D vwCl (sz + 29, z_wc (g_0 D C sz sK sV t) (g_M sz) (sz + 29)) H := by
  rw [z_wc16 (g_k 29)]
  have h1 : H[sz + 29]? = some (vp_cell _ _) := h
  show H[sz + 29]? = some (vp_cell _ _)
  rw [h1, vp_cell_q, vp_cell_q, g_n]
  refine congrArg some (g_cong fun j hj => ?_)
  have hj : j < 8 := hj
  rw [g_r]
  rcases (show j = 0 ∨ j = 1 ∨ j = 2 ∨ j = 3 ∨ j = 4 ∨ j = 5 ∨ j = 6 ∨ j = 7 by omega) with rfl | rfl | rfl | rfl | rfl | rfl | rfl | rfl <;> rfl
set_option maxRecDepth 100000 in
theorem gw_30 {H : Heap} (h : va_at D vwCl (sz + 30, g_F sz C 30) H) : va_at D vwCl (sz + 30, z_wc (g_0 D C sz sK sV t) (g_M sz) (sz + 30)) H := by
  rw [z_wc8 (g_k 30)]
  try simp only [g_r, g_m]
  exact h
set_option maxRecDepth 100000 in
theorem gw_31 {H : Heap} (h : va_at D vwCl (sz + 31, g_F sz C 31) H) : va_at D vwCl (sz + 31, z_wc (g_0 D C sz sK sV t) (g_M sz) (sz + 31)) H := by
  rw [z_wc8 (g_k 31)]
  try simp only [g_r, g_m]
  exact h
set_option maxRecDepth 100000 in
theorem gw_32 {H : Heap} (h : va_at D vwCl (sz + 32, g_F sz C 32) H) : va_at D vwCl (sz + 32, z_wc (g_0 D C sz sK sV t) (g_M sz) (sz + 32)) H := by
  rw [z_wc8 (g_k 32)]
  try simp only [g_r, g_m]
  exact h
set_option maxRecDepth 100000 in
theorem gw_33 {H : Heap} (h : va_at D vwCl (sz + 33, g_F sz C 33) H) : va_at D vwCl (sz + 33, z_wc (g_0 D C sz sK sV t) (g_M sz) (sz + 33)) H := by
  rw [z_wc8 (g_k 33)]
  try simp only [g_r, g_m]
  exact h
set_option maxRecDepth 100000 in
theorem gw_34 {H : Heap} (h : va_at D vwCl (sz + 34, g_F sz C 34) H) : va_at D vwCl (sz + 34, z_wc (g_0 D C sz sK sV t) (g_M sz) (sz + 34)) H := by
  rw [z_wc8 (g_k 34)]
  try simp only [g_r, g_m]
  exact h
set_option maxRecDepth 100000 in
theorem gw_35 {H : Heap} (h : va_at D vwCl (sz + 35, g_F sz C 35) H) : va_at D vwCl (sz + 35, z_wc (g_0 D C sz sK sV t) (g_M sz) (sz + 35)) H := by
  rw [z_wc8 (g_k 35)]
  try simp only [g_r, g_m]
  exact h
set_option maxRecDepth 100000 in
theorem gw_36 {H : Heap} (h : va_at D vwCl (sz + 36, g_F sz C 36) H) : va_at D vwCl (sz + 36, z_wc (g_0 D C sz sK sV t) (g_M sz) (sz + 36)) H := by
  rw [z_wc8 (g_k 36)]
  try simp only [g_r, g_m]
  exact h
set_option maxRecDepth 100000 in
theorem gw_37 {H : Heap} (h : va_at D vwCl (sz + 37, g_F sz C 37) H) : va_at D vwCl (sz + 37, z_wc (g_0 D C sz sK sV t) (g_M sz) (sz + 37)) H := by
  rw [z_wc8 (g_k 37)]
  try simp only [g_r, g_m]
  exact h
set_option maxRecDepth 100000 in
theorem gw_38 {H : Heap} (h : va_at D vwCl (sz + 38, g_F sz C 38) H) : va_at D vwCl (sz + 38, z_wc (g_0 D C sz sK sV t) (g_M sz) (sz + 38)) H := by
  rw [z_wc7 (g_k 38)]
  try simp only [g_r, g_m]
  exact h
set_option maxRecDepth 100000 in
theorem gw_39 {H : Heap} (h : va_at D vwCl (sz + 39, g_F sz C 39) H) : va_at D vwCl (sz + 39, z_wc (g_0 D C sz sK sV t) (g_M sz) (sz + 39)) H := by
  rw [z_wc12 (g_k 39), g_n, g_m]
  have h1 : H[sz + 39]? = some (vp_cell _ _) := h
  show H[sz + 39]? = some (vp_cell _ _)
  rw [h1]
  exact congrArg (fun z => some (vp_cell (C 0) (120, .inl z))) rfl
set_option maxRecDepth 100000 in
theorem gw_40 {H : Heap} (h : va_at D vwCl (sz + 40, g_F sz C 40) H) : va_at D vwCl (sz + 40, z_wc (g_0 D C sz sK sV t) (g_M sz) (sz + 40)) H := by
  rw [z_wc15 (g_k 40)]
  have h1 : H[sz + 40]? = some (vp_cell _ _) := h
  show H[sz + 40]? = some (vp_cell _ _)
  rw [h1, vp_cell_q, vp_cell_q, g_n]
  refine congrArg some (g_cong fun j hj => ?_)
  have hj : j < 4 := hj
  rw [g_r]
  rcases (show j = 0 ∨ j = 1 ∨ j = 2 ∨ j = 3 by omega) with rfl | rfl | rfl | rfl <;> rfl
set_option maxRecDepth 100000 in
theorem gw_41 {H : Heap} (h : va_at D vwCl (sz + 41, g_F sz C 41) H) : va_at D vwCl (sz + 41, z_wc (g_0 D C sz sK sV t) (g_M sz) (sz + 41)) H := by
  rw [z_wc5 (g_k 41)]
  try simp only [g_r, g_m]
  exact h
set_option maxRecDepth 100000 in
theorem gw_42 {H : Heap} (h : va_at D vwCl (sz + 42, g_F sz C 42) H) : va_at D vwCl (sz + 42, z_wc (g_0 D C sz sK sV t) (g_M sz) (sz + 42)) H := by
  rw [z_wc13 (g_k 42), g_n]
  exact h
set_option maxRecDepth 100000 in
theorem gw_43 {H : Heap} (h : va_at D vwCl (sz + 43, g_F sz C 43) H) : va_at D vwCl (sz + 43, z_wc (g_0 D C sz sK sV t) (g_M sz) (sz + 43)) H := by
  rw [z_wc5 (g_k 43)]
  try simp only [g_r, g_m]
  exact h
set_option maxRecDepth 100000 in
theorem gw_44 {H : Heap} (h : va_at D vwCl (sz + 44, g_F sz C 44) H) : va_at D vwCl (sz + 44, z_wc (g_0 D C sz sK sV t) (g_M sz) (sz + 44)) H := by
  rw [z_wc13 (g_k 44), g_n]
  exact h
set_option maxRecDepth 100000 in
theorem gw_45 {H : Heap} (h : va_at D vwCl (sz + 45, g_F sz C 45) H) : va_at D vwCl (sz + 45, z_wc (g_0 D C sz sK sV t) (g_M sz) (sz + 45)) H := by
  rw [z_wc5 (g_k 45)]
  try simp only [g_r, g_m]
  exact h
set_option maxRecDepth 100000 in
theorem gw_46 {H : Heap} (h : va_at D vwCl (sz + 46, g_F sz C 46) H) : va_at D vwCl (sz + 46, z_wc (g_0 D C sz sK sV t) (g_M sz) (sz + 46)) H := by
  rw [z_wc13 (g_k 46), g_n]
  exact h
set_option maxRecDepth 100000 in
theorem gw_47 {H : Heap} (h : va_at D vwCl (sz + 47, g_F sz C 47) H) : va_at D vwCl (sz + 47, z_wc (g_0 D C sz sK sV t) (g_M sz) (sz + 47)) H := by
  rw [z_wc5 (g_k 47)]
  try simp only [g_r, g_m]
  exact h
set_option maxRecDepth 100000 in
theorem gw_48 {H : Heap} (h : va_at D vwCl (sz + 48, g_F sz C 48) H) : va_at D vwCl (sz + 48, z_wc (g_0 D C sz sK sV t) (g_M sz) (sz + 48)) H := by
  rw [z_wc13 (g_k 48), g_n]
  exact h
set_option maxRecDepth 100000 in
theorem gw_49 {H : Heap} (h : va_at D vwCl (sz + 49, g_F sz C 49) H) : va_at D vwCl (sz + 49, z_wc (g_0 D C sz sK sV t) (g_M sz) (sz + 49)) H := by
  rw [z_wc12 (g_k 49), g_n, g_m]
  have h1 : H[sz + 49]? = some (vp_cell _ _) := h
  show H[sz + 49]? = some (vp_cell _ _)
  rw [h1]
  exact congrArg (fun z => some (vp_cell (C 0) (7, .inl z))) rfl
set_option maxRecDepth 100000 in
theorem gw_50 {H : Heap} (h : va_at D vwCl (sz + 50, g_F sz C 50) H) : va_at D vwCl (sz + 50, z_wc (g_0 D C sz sK sV t) (g_M sz) (sz + 50)) H := by
  rw [z_wc12 (g_k 50), g_n, g_m]
  have h1 : H[sz + 50]? = some (vp_cell _ _) := h
  show H[sz + 50]? = some (vp_cell _ _)
  rw [h1]
  exact congrArg (fun z => some (vp_cell (C 0) (10, .inl z))) rfl
set_option maxRecDepth 100000 in
theorem gw_51 {H : Heap} (h : va_at D vwCl (sz + 51, g_F sz C 51) H) : va_at D vwCl (sz + 51, z_wc (g_0 D C sz sK sV t) (g_M sz) (sz + 51)) H := by
  rw [z_wc11 (g_k 51)]
  try simp only [g_r, g_m]
  exact h
set_option maxRecDepth 100000 in
theorem gw_52 {H : Heap} (h : va_at D vwCl (sz + 52, g_F sz C 52) H) : va_at D vwCl (sz + 52, z_wc (g_0 D C sz sK sV t) (g_M sz) (sz + 52)) H := by
  rw [z_wc12 (g_k 52), g_n, g_m]
  have h1 : H[sz + 52]? = some (vp_cell _ _) := h
  show H[sz + 52]? = some (vp_cell _ _)
  rw [h1]
  exact congrArg (fun z => some (vp_cell (C 0) (52, .inl z))) (show (upd (fun _ => 0) 3 (-1)) = _ from (by funext j; match j with | 0 => rfl | 1 => rfl | 2 => rfl | 3 => rfl | j + 4 => rfl))
set_option maxRecDepth 100000 in
theorem gw_53 {H : Heap} (h : va_at D vwCl (sz + 53, g_F sz C 53) H) : va_at D vwCl (sz + 53, z_wc (g_0 D C sz sK sV t) (g_M sz) (sz + 53)) H := by
  rw [z_wc12 (g_k 53), g_n, g_m]
  have h1 : H[sz + 53]? = some (vp_cell _ _) := h
  show H[sz + 53]? = some (vp_cell _ _)
  rw [h1]
  exact congrArg (fun z => some (vp_cell (C 0) (52, .inl z))) rfl
set_option maxRecDepth 100000 in
theorem gw_54 {H : Heap} (h : va_at D vwCl (sz + 54, g_F sz C 54) H) : va_at D vwCl (sz + 54, z_wc (g_0 D C sz sK sV t) (g_M sz) (sz + 54)) H := by
  rw [z_wc12 (g_k 54), g_n, g_m]
  have h1 : H[sz + 54]? = some (vp_cell _ _) := h
  show H[sz + 54]? = some (vp_cell _ _)
  rw [h1]
  exact congrArg (fun z => some (vp_cell (C 0) (52, .inl z))) rfl
set_option maxRecDepth 100000 in
theorem gw_55 {H : Heap} (h : va_at D vwCl (sz + 55, g_F sz C 55) H) : va_at D vwCl (sz + 55, z_wc (g_0 D C sz sK sV t) (g_M sz) (sz + 55)) H := by
  rw [z_wc12 (g_k 55), g_n, g_m]
  have h1 : H[sz + 55]? = some (vp_cell _ _) := h
  show H[sz + 55]? = some (vp_cell _ _)
  rw [h1]
  exact congrArg (fun z => some (vp_cell (C 0) (52, .inl z))) rfl
set_option maxRecDepth 100000 in
theorem gw_56 {H : Heap} (h : va_at D vwCl (sz + 56, g_F sz C 56) H) : va_at D vwCl (sz + 56, z_wc (g_0 D C sz sK sV t) (g_M sz) (sz + 56)) H := by
  rw [z_wc12 (g_k 56), g_n, g_m]
  have h1 : H[sz + 56]? = some (vp_cell _ _) := h
  show H[sz + 56]? = some (vp_cell _ _)
  rw [h1]
  exact congrArg (fun z => some (vp_cell (C 0) (8, .inl z))) rfl
set_option maxRecDepth 100000 in
theorem gw_57 {H : Heap} (h : va_at D vwCl (sz + 57, g_F sz C 57) H) : va_at D vwCl (sz + 57, z_wc (g_0 D C sz sK sV t) (g_M sz) (sz + 57)) H := by
  rw [z_wc12 (g_k 57), g_n, g_m]
  have h1 : H[sz + 57]? = some (vp_cell _ _) := h
  show H[sz + 57]? = some (vp_cell _ _)
  rw [h1]
  exact congrArg (fun z => some (vp_cell (C 0) (120, .inl z))) rfl
set_option maxRecDepth 100000 in
theorem gw_58 {H : Heap} (h : va_at D vwCl (sz + 58, g_F sz C 58) H) : va_at D vwCl (sz + 58, z_wc (g_0 D C sz sK sV t) (g_M sz) (sz + 58)) H := by
  rw [z_wc12 (g_k 58), g_n, g_m]
  have h1 : H[sz + 58]? = some (vp_cell _ _) := h
  show H[sz + 58]? = some (vp_cell _ _)
  rw [h1]
  exact congrArg (fun z => some (vp_cell (C 0) (4, .inl z))) (show (upd (upd (upd (upd (fun _ => 0) 0 (-1)) 1 (-1)) 2 (-1)) 3 (-1)) = _ from (by funext j; match j with | 0 => rfl | 1 => rfl | 2 => rfl | 3 => rfl | j + 4 => rfl))
set_option maxRecDepth 100000 in
theorem gw_59 {H : Heap} (h : va_at D vwCl (sz + 59, g_F sz C 59) H) : va_at D vwCl (sz + 59, z_wc (g_0 D C sz sK sV t) (g_M sz) (sz + 59)) H := by
  rw [z_wc12 (g_k 59), g_n, g_m]
  have h1 : H[sz + 59]? = some (vp_cell _ _) := h
  show H[sz + 59]? = some (vp_cell _ _)
  rw [h1]
  exact congrArg (fun z => some (vp_cell (C 0) (4, .inl z))) rfl
set_option maxRecDepth 100000 in
theorem gw_60 {H : Heap} (h : va_at D vwCl (sz + 60, g_F sz C 60) H) : va_at D vwCl (sz + 60, z_wc (g_0 D C sz sK sV t) (g_M sz) (sz + 60)) H := by
  rw [z_wc13 (g_k 60), g_n]
  exact h
theorem g_w (k : Nat) (hk : k < 61) {H : Heap} (h : va_at D vwCl (sz + k, g_F sz C k) H) : va_at D vwCl (sz + k, z_wc (g_0 D C sz sK sV t) (g_M sz) (sz + k)) H := by
  match k, hk with
  | 0, _ => exact gw_0 h
  | 1, _ => exact gw_1 h
  | 2, _ => exact gw_2 h
  | 3, _ => exact gw_3 h
  | 4, _ => exact gw_4 h
  | 5, _ => exact gw_5 h
  | 6, _ => exact gw_6 h
  | 7, _ => exact gw_7 h
  | 8, _ => exact gw_8 h
  | 9, _ => exact gw_9 h
  | 10, _ => exact gw_10 h
  | 11, _ => exact gw_11 h
  | 12, _ => exact gw_12 h
  | 13, _ => exact gw_13 h
  | 14, _ => exact gw_14 h
  | 15, _ => exact gw_15 h
  | 16, _ => exact gw_16 h
  | 17, _ => exact gw_17 h
  | 18, _ => exact gw_18 h
  | 19, _ => exact gw_19 h
  | 20, _ => exact gw_20 h
  | 21, _ => exact gw_21 h
  | 22, _ => exact gw_22 h
  | 23, _ => exact gw_23 h
  | 24, _ => exact gw_24 h
  | 25, _ => exact gw_25 h
  | 26, _ => exact gw_26 h
  | 27, _ => exact gw_27 h
  | 28, _ => exact gw_28 h
  | 29, _ => exact gw_29 h
  | 30, _ => exact gw_30 h
  | 31, _ => exact gw_31 h
  | 32, _ => exact gw_32 h
  | 33, _ => exact gw_33 h
  | 34, _ => exact gw_34 h
  | 35, _ => exact gw_35 h
  | 36, _ => exact gw_36 h
  | 37, _ => exact gw_37 h
  | 38, _ => exact gw_38 h
  | 39, _ => exact gw_39 h
  | 40, _ => exact gw_40 h
  | 41, _ => exact gw_41 h
  | 42, _ => exact gw_42 h
  | 43, _ => exact gw_43 h
  | 44, _ => exact gw_44 h
  | 45, _ => exact gw_45 h
  | 46, _ => exact gw_46 h
  | 47, _ => exact gw_47 h
  | 48, _ => exact gw_48 h
  | 49, _ => exact gw_49 h
  | 50, _ => exact gw_50 h
  | 51, _ => exact gw_51 h
  | 52, _ => exact gw_52 h
  | 53, _ => exact gw_53 h
  | 54, _ => exact gw_54 h
  | 55, _ => exact gw_55 h
  | 56, _ => exact gw_56 h
  | 57, _ => exact gw_57 h
  | 58, _ => exact gw_58 h
  | 59, _ => exact gw_59 h
  | 60, _ => exact gw_60 h
  | k + 61, hk => exact absurd hk (by omega)
theorem g_pl {f : Nat → va_E} : va_pl (z_L (g_0 D C sz sK sV t)) f = i_ws sz 61 (fun k => f (sz + k)) := by
  show ((List.range 61).map (fun k => sz + k)).map (fun a => (a, f a)) = _
  rw [List.map_map]
  rfl
theorem g_wd {H0 H : Heap} {locs : List Loc} (hW : i_W D sz 61 (g_F sz C) H0 H locs) (h0 : H0.size = sz) : z_Wd (g_0 D C sz sK sV t) (g_M sz) H0 H [] := by
  refine ⟨?_, ?_, ?_⟩
  · rw [g_pl]
    intro k q hk
    obtain ⟨h1, rfl⟩ := i_of hk
    exact g_w k h1 (hW.2.1 k _ (i_at h1))
  · rw [g_pl]
    refine ⟨i_D.1, fun k q hk => ?_⟩
    obtain ⟨h1, rfl⟩ := i_of hk
    exact List.mem_map.mpr ⟨k, List.mem_range.mpr h1, rfl⟩
  · have hz := hW.1
    refine ⟨hW.2.2.1, fun q g1 g2 => hW.2.2.2.1 q g1 (fun h => by omega), fun q hq => by cases hq⟩
end GEO
