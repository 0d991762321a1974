theorem law_pure {Γ : Zg} {sz : Nat} (g : g_Ok Γ sz) {xs : Nat → Int32} {L : Nat} (hL : L ≤ 3072) : L_law_P18 Γ xs L 1000 (g_M sz) (sz + 0) (sz + 51) 0 = some 1 := sorry
