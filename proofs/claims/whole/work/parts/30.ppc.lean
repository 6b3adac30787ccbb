theorem sn_pc_64 : ∀ a, a < 64 → ∀ b, b < 64 → sn_pc (nI (64 * a + b)) = md_pcn (nI (64 * a + b)) := by decide +kernel
theorem sn_pc_md {i : Nat} (h : i < 4096) : sn_pc (nI i) = md_pcn (nI i) := by
  have := sn_pc_64 (i / 64) (by omega) (i % 64) (by omega)
  rwa [show 64 * (i / 64) + i % 64 = i by omega] at this
theorem sn_pc_lt64 : ∀ a, a < 64 → ∀ b, b < 64 → ∀ p, p < 13 → (2 ^ p ≤ 64 * a + b ∨ sn_pc (nI (64 * a + b)) < nI (p + 1)) := by decide +kernel
theorem sn_pc_lt {i P : Nat} (hP : P ≤ 12) (h : i < 2 ^ P) : sn_pc (nI i) < nI (P + 1) := by
  have h2 := sn_pow hP
  have := sn_pc_lt64 (i / 64) (by omega) (i % 64) (by omega) P (by omega)
  rw [show 64 * (i / 64) + i % 64 = i by omega] at this
  exact this.resolve_left (by omega)
