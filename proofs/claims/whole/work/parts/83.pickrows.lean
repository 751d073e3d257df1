/-! ===== grow: rows of picks in their order ===== -/
section S3
variable {m N i : Nat} {r t : Nat → Nat}
/-- an increasing row of m places below N -/
def ricr (m N : Nat) (r : Nat → Nat) : Prop := (∀ j, j < m → r j < N) ∧ ∀ j, j + 1 < m → r j < r (j + 1)
/-- t is before r -/
def rbfo (m : Nat) (t r : Nat → Nat) : Prop := ∃ d, d < m ∧ (∀ j, j < d → t j = r j) ∧ t d < r d
def nxrw (r : Nat → Nat) (i : Nat) : Nat → Nat := fun j => if j < i then r j else r i + 1 + (j - i)
theorem nxrw_lt {j : Nat} (h : j < i) : nxrw r i j = r j := if_pos h
theorem nxrw_ge {j : Nat} (h : i ≤ j) : nxrw r i j = r i + 1 + (j - i) := if_neg (by omega)
theorem ricr_lo (h : ricr m N r) : ∀ n j, j + n < m → r j + n ≤ r (j + n)
  | 0, j, _ => Nat.le_refl _
  | n + 1, j, hj => by
    have h1 := ricr_lo h n j (by omega)
    have h2 := h.2 (j + n) (by omega)
    show _ ≤ r (j + n + 1)
    omega
theorem ricr_hi (h : ricr m N r) {j : Nat} (hj : j < m) : r j + (m - j) ≤ N := by
  have h1 := ricr_lo h (m - 1 - j) j (by omega)
  have h2 := h.1 (j + (m - 1 - j)) (by omega)
  omega
theorem nxrw_ok (h : ricr m N r) (hi : i < m) (hn : r i < N - m + i) : ricr m N (nxrw r i) := by
  have h0 := ricr_hi h hi
  have hl := ricr_lo h i 0 (by omega)
  rw [Nat.zero_add] at hl
  constructor
  · intro j hj
    by_cases c : j < i
    · rw [nxrw_lt c]; exact h.1 j hj
    · rw [nxrw_ge (by omega)]
      omega
  · intro j hj
    by_cases c : j + 1 < i
    · rw [nxrw_lt c, nxrw_lt (by omega)]; exact h.2 j hj
    · by_cases c' : j < i
      · rw [nxrw_lt c', nxrw_ge (by omega)]
        have := h.2 j hj
        have e : j + 1 = i := by omega
        rw [e] at this
        omega
      · rw [nxrw_ge (by omega), nxrw_ge (by omega)]
        omega
/-- nowhere behind: the same or before -/
theorem row_le (h : ∀ j, j < m → t j ≤ r j) : (∀ j, j < m → t j = r j) ∨ rbfo m t r := by
  by_cases c : ∀ j, j < m → t j = r j
  · exact Or.inl c
  · right
    obtain ⟨j, hj⟩ : ∃ j, j < m ∧ t j ≠ r j := Classical.byContradiction fun z => c (fun j hj => Classical.byContradiction fun y => z ⟨j, hj, y⟩)
    obtain ⟨u, u1, u2⟩ := g_min (P := fun j => j < m ∧ t j ≠ r j) hj
    refine ⟨u, u1.1, fun j hju => Classical.byContradiction fun y => u2 j hju ⟨Nat.lt_trans hju u1.1, y⟩, ?_⟩
    have := h u u1.1
    have := u1.2
    omega
theorem nxrw_bf (h : ricr m N r) (hi : i < m) (last : ∀ j, i < j → j < m → ¬ r j < N - m + j) (ht : ricr m N t) (hb : rbfo m t (nxrw r i)) : (∀ j, j < m → t j = r j) ∨ rbfo m t r := by
  obtain ⟨d, d1, d2, d3⟩ := hb
  by_cases c : d < i
  · rw [nxrw_lt c] at d3
    exact Or.inr ⟨d, d1, fun j hj => by rw [d2 j hj, nxrw_lt (by omega)], d3⟩
  rw [nxrw_ge (by omega)] at d3
  have low : ∀ j, j < i → t j = r j := fun j hj => by rw [d2 j (by omega), nxrw_lt hj]
  by_cases e : d = i
  · subst e
    by_cases c2 : t d < r d
    · exact Or.inr ⟨d, d1, low, c2⟩
    · refine row_le (fun j hj => ?_)
      by_cases c3 : j < d
      · exact Nat.le_of_eq (low j c3)
      · by_cases c4 : j = d
        · subst c4; omega
        · have h1 := last j (by omega) hj
          have h2 := ricr_hi ht hj
          omega
  · exfalso
    have h1 := d2 i (by omega)
    rw [nxrw_ge (Nat.le_refl i)] at h1
    have h2 := ricr_lo ht (d - i) i (by omega)
    rw [show i + (d - i) = d by omega] at h2
    omega
theorem row_last (last : ∀ j, j < m → ¬ r j < N - m + j) (ht : ricr m N t) : (∀ j, j < m → t j = r j) ∨ rbfo m t r := by
  refine row_le (fun j hj => ?_)
  have h1 := last j hj
  have h2 := ricr_hi ht hj
  omega
/-- no row is before the first -/
theorem row_first (ht : ricr m N t) : ¬ rbfo m t (fun j => j) := by
  rintro ⟨d, d1, d2, d3⟩
  have h := ricr_lo ht d 0 (by omega)
  rw [Nat.zero_add] at h
  dsimp only at d3
  omega
end S3
