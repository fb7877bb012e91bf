/-- how many bits -/
def pop : Nat → Nat → Nat
  | 0, _ => 0
  | k + 1, n => pop k n + n / 2 ^ k % 2
def sw_F (n : Nat) : Nat :=
  let v1 := n - ((n / 2) &&& 1431655765)
  let v2 := (v1 &&& 858993459) + ((v1 / 4) &&& 858993459)
  let v3 := (v2 + v2 / 16) &&& 252645135
  let v4 := v3 + v3 / 256
  let v5 := v4 + v4 / 65536
  v5 &&& 63
def sw_P (n : Nat) : Nat := (n % 2 + n / 2 % 2 + n / 4 % 2 + n / 8 % 2) + (n / 16 % 2 + n / 32 % 2 + n / 64 % 2 + n / 128 % 2) + (n / 256 % 2 + n / 512 % 2 + n / 1024 % 2 + n / 2048 % 2) + (n / 4096 % 2 + n / 8192 % 2 + n / 16384 % 2 + n / 32768 % 2)
theorem sw_c0 : ∀ a, a < 16 → ∀ b, b < 256 → sw_F (0 + (256 * a + b)) = sw_P (0 + (256 * a + b)) := by decide +kernel
theorem sw_c1 : ∀ a, a < 16 → ∀ b, b < 256 → sw_F (4096 + (256 * a + b)) = sw_P (4096 + (256 * a + b)) := by decide +kernel
theorem sw_c2 : ∀ a, a < 16 → ∀ b, b < 256 → sw_F (8192 + (256 * a + b)) = sw_P (8192 + (256 * a + b)) := by decide +kernel
theorem sw_c3 : ∀ a, a < 16 → ∀ b, b < 256 → sw_F (12288 + (256 * a + b)) = sw_P (12288 + (256 * a + b)) := by decide +kernel
theorem sw_c4 : ∀ a, a < 16 → ∀ b, b < 256 → sw_F (16384 + (256 * a + b)) = sw_P (16384 + (256 * a + b)) := by decide +kernel
theorem sw_c5 : ∀ a, a < 16 → ∀ b, b < 256 → sw_F (20480 + (256 * a + b)) = sw_P (20480 + (256 * a + b)) := by decide +kernel
theorem sw_c6 : ∀ a, a < 16 → ∀ b, b < 256 → sw_F (24576 + (256 * a + b)) = sw_P (24576 + (256 * a + b)) := by decide +kernel
theorem sw_c7 : ∀ a, a < 16 → ∀ b, b < 256 → sw_F (28672 + (256 * a + b)) = sw_P (28672 + (256 * a + b)) := by decide +kernel
theorem sw_c8 : ∀ a, a < 16 → ∀ b, b < 256 → sw_F (32768 + (256 * a + b)) = sw_P (32768 + (256 * a + b)) := by decide +kernel
theorem sw_c9 : ∀ a, a < 16 → ∀ b, b < 256 → sw_F (36864 + (256 * a + b)) = sw_P (36864 + (256 * a + b)) := by decide +kernel
theorem sw_c10 : ∀ a, a < 16 → ∀ b, b < 256 → sw_F (40960 + (256 * a + b)) = sw_P (40960 + (256 * a + b)) := by decide +kernel
theorem sw_c11 : ∀ a, a < 16 → ∀ b, b < 256 → sw_F (45056 + (256 * a + b)) = sw_P (45056 + (256 * a + b)) := by decide +kernel
theorem sw_c12 : ∀ a, a < 16 → ∀ b, b < 256 → sw_F (49152 + (256 * a + b)) = sw_P (49152 + (256 * a + b)) := by decide +kernel
theorem sw_c13 : ∀ a, a < 16 → ∀ b, b < 256 → sw_F (53248 + (256 * a + b)) = sw_P (53248 + (256 * a + b)) := by decide +kernel
theorem sw_c14 : ∀ a, a < 16 → ∀ b, b < 256 → sw_F (57344 + (256 * a + b)) = sw_P (57344 + (256 * a + b)) := by decide +kernel
theorem sw_c15 : ∀ a, a < 16 → ∀ b, b < 256 → sw_F (61440 + (256 * a + b)) = sw_P (61440 + (256 * a + b)) := by decide +kernel
theorem sw_at {q n : Nat} (h : ∀ a, a < 16 → ∀ b, b < 256 → sw_F (4096 * q + (256 * a + b)) = sw_P (4096 * q + (256 * a + b))) (h2 : n / 4096 = q) : sw_F n = sw_P n := by
  have e := h (n % 4096 / 256) (by omega) (n % 256) (by omega)
  rw [show 4096 * q + (256 * (n % 4096 / 256) + n % 256) = n from by omega] at e
  exact e
theorem sw_ok {n : Nat} (h : n < 65536) : sw_F n = sw_P n := by
  have h2 : n / 4096 < 16 := by omega
  generalize hq : n / 4096 = q at h2
  match q, h2, hq with
  | 0, _, hq => exact sw_at (q := 0) sw_c0 hq
  | 1, _, hq => exact sw_at (q := 1) sw_c1 hq
  | 2, _, hq => exact sw_at (q := 2) sw_c2 hq
  | 3, _, hq => exact sw_at (q := 3) sw_c3 hq
  | 4, _, hq => exact sw_at (q := 4) sw_c4 hq
  | 5, _, hq => exact sw_at (q := 5) sw_c5 hq
  | 6, _, hq => exact sw_at (q := 6) sw_c6 hq
  | 7, _, hq => exact sw_at (q := 7) sw_c7 hq
  | 8, _, hq => exact sw_at (q := 8) sw_c8 hq
  | 9, _, hq => exact sw_at (q := 9) sw_c9 hq
  | 10, _, hq => exact sw_at (q := 10) sw_c10 hq
  | 11, _, hq => exact sw_at (q := 11) sw_c11 hq
  | 12, _, hq => exact sw_at (q := 12) sw_c12 hq
  | 13, _, hq => exact sw_at (q := 13) sw_c13 hq
  | 14, _, hq => exact sw_at (q := 14) sw_c14 hq
  | 15, _, hq => exact sw_at (q := 15) sw_c15 hq
  | q + 16, h2, _ => omega
