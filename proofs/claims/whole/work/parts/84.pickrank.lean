/-! ===== grow: how many rows of picks are left ===== -/
section S4
def chz : Nat → Nat → Nat
  | _, 0 => 1
  | 0, _ + 1 => 0
  | n + 1, k + 1 => chz n k + chz n (k + 1)
theorem chz_up : ∀ n k, chz n k ≤ chz (n + 1) k
  | n, 0 => by cases n <;> exact Nat.le_refl _
  | n, k + 1 => by
    show _ ≤ chz n k + chz n (k + 1)
    omega
theorem chz_mo {a k : Nat} : ∀ d, chz a k ≤ chz (a + d) k
  | 0 => Nat.le_refl _
  | d + 1 => Nat.le_trans (chz_mo d) (chz_up (a + d) k)
/-- rows behind r, from place j on, n places -/
def rkf (N : Nat) (r : Nat → Nat) : Nat → Nat → Nat
  | 0, _ => 0
  | n + 1, j => chz (N - 1 - r j) (n + 1) + rkf N r n (j + 1)
def bsm : Nat → Nat
  | 0 => 0
  | n + 1 => chz 27 (n + 1) + bsm n
theorem rkf_b {N : Nat} (hN : N ≤ 28) (r : Nat → Nat) : ∀ n j, rkf N r n j ≤ bsm n
  | 0, _ => Nat.le_refl _
  | n + 1, j => by
    have h1 := rkf_b hN r n (j + 1)
    have h2 := chz_mo (a := N - 1 - r j) (k := n + 1) (27 - (N - 1 - r j))
    rw [show N - 1 - r j + (27 - (N - 1 - r j)) = 27 by omega] at h2
    show chz (N - 1 - r j) (n + 1) + rkf N r n (j + 1) ≤ chz 27 (n + 1) + bsm n
    omega
theorem bsm_4 : ∀ n, n < 5 → bsm n < mF := by decide +kernel
theorem rkf_tail {N : Nat} {r : Nat → Nat} : ∀ n i c, n ≤ N - c → (∀ k, k < n → r (i + k) = c + k) → rkf N r n i + 1 = chz (N - c) n
  | 0, i, c, _, _ => by cases N - c <;> rfl
  | n + 1, i, c, h, hr => by
    have ih := rkf_tail (N := N) (r := r) n (i + 1) (c + 1) (by omega) (fun k hk => by
      have := hr (k + 1) (by omega)
      rw [show i + 1 + k = i + (k + 1) by omega, this]
      omega)
    have e0 := hr 0 (by omega)
    have e1 : r i = c := e0
    show chz (N - 1 - r i) (n + 1) + rkf N r n (i + 1) + 1 = chz (N - c) (n + 1)
    rw [e1, show N - c = (N - (c + 1)) + 1 by omega, show N - 1 - c = N - (c + 1) by omega]
    show _ = chz (N - (c + 1)) n + chz (N - (c + 1)) (n + 1)
    omega
theorem rkf_dn {N m i : Nat} {r : Nat → Nat} (hn : r i < N - m + i) (hm : m ≤ N) (q : Nat) : ∀ p j, j + p = i → i + (q + 1) = m → rkf N (nxrw r i) (q + 1 + p) j < rkf N r (q + 1 + p) j
  | 0, j, hj, hq => by
    have e : j = i := by omega
    subst e
    have t := rkf_tail (N := N) (r := nxrw r j) (q + 1) j (r j + 1) (by omega) (fun k _ => by
      rw [nxrw_ge (by omega), show j + k - j = k by omega])
    show rkf N (nxrw r j) (q + 1) j < chz (N - 1 - r j) (q + 1) + rkf N r q (j + 1)
    rw [show N - 1 - r j = N - (r j + 1) by omega]
    omega
  | p + 1, j, hj, hq => by
    have ih := rkf_dn hn hm q p (j + 1) (by omega) hq
    show chz (N - 1 - nxrw r i j) (q + 1 + p + 1) + rkf N (nxrw r i) (q + 1 + p) (j + 1) < chz (N - 1 - r j) (q + 1 + p + 1) + rkf N r (q + 1 + p) (j + 1)
    rw [nxrw_lt (show j < i by omega)]
    omega
/-- the next row has fewer behind it -/
theorem rkf_lt {N m i : Nat} {r : Nat → Nat} (h : ricr m N r) (hi : i < m) (hn : r i < N - m + i) : rkf N (nxrw r i) m 0 < rkf N r m 0 := by
  have hl := ricr_lo h i 0 (by omega)
  have h0 := ricr_hi h hi
  rw [Nat.zero_add] at hl
  have k := rkf_dn (N := N) (m := m) (i := i) (r := r) hn (by omega) (m - i - 1) i 0 (by omega) (by omega)
  rw [show m - i - 1 + 1 + i = m by omega] at k
  exact k
end S4
