/-! ===== grow: the reference's next row of picks ===== -/
section S5
theorem sub_Nm : ∀ N, N < 29 → ∀ m, m < 5 → m ≤ N → nI N - nI m = nI (N - m) := by decide +kernel
theorem dec_j : ∀ j, j < 9 → nI j + (-1 : Int32) = nI j - 1 := by decide +kernel
theorem np_L4 {m N : Nat} {r : Nat → Nat} (y : mY) (hm : m < 5) (hN : N < 29) (hmN : m ≤ N) (h62 : y.1 279 62 = nI N) (hr : ∀ j, j < m → y.1 314 j = nI (r j) ∧ r j < 100) (kk : Int32 → Option (Int32 × mY)) : ∀ j n, j ≤ m → j < n → (∀ l, j ≤ l → l < m → ¬ r l < N - m + l) → (∃ i, i < m ∧ r i < N - m + i ∧ (∀ l, i < l → l < m → ¬ r l < N - m + l) ∧ f_X11_nextPick_L4 (nI m) n (nI j - 1) y kk = kk (nI i)) ∨ ((∀ l, l < m → ¬ r l < N - m + l) ∧ f_X11_nextPick_L4 (nI m) n (nI j - 1) y kk = some (0, y))
  | _, 0, _, h, _ => absurd h (Nat.not_lt_zero _)
  | 0, n + 1, _, _, hl => by
    right
    refine ⟨fun l h => hl l (Nat.zero_le _) h, ?_⟩
    rw [f_X11_nextPick_L4, if_pos (by decide)]
  | j + 1, n + 1, hj, hn, hl => by
    rw [nI_pred, f_X11_nextPick_L4, if_neg (nI_pos (by omega)), if_pos (in_ok (by omega) (by decide)), cl (by omega), h62, (hr j (by omega)).1, sub_Nm N hN m hm hmN, nI_add]
    have r100 := (hr j (by omega)).2
    by_cases c : r j < N - m + j
    · left
      exact ⟨j, by omega, c, fun l h1 h2 => hl l (by omega) h2, by rw [if_pos (nI_lt c (by omega))]⟩
    · rw [if_neg (nI_nlt (by omega) (by omega)), dec_j j (by omega)]
      exact np_L4 y hm hN hmN h62 hr kk j n (by omega) (by omega) (fun l h1 h2 => by
        by_cases e : l = j
        · rw [e]; exact c
        · exact hl l (by omega) h2)
end S5
