/-! ===== grow: the reference's next row of picks (3) ===== -/
section S7
theorem nextPick_ok {m N : Nat} {r : Nat → Nat} (y : mY) (hm : m < 5) (hN : N < 29) (hmN : m ≤ N) (h62 : y.1 279 62 = nI N) (hr : ∀ j, j < m → y.1 314 j = nI (r j)) (h : ricr m N r) : (∃ i y', i < m ∧ r i < N - m + i ∧ (∀ l, i < l → l < m → ¬ r l < N - m + l) ∧ f_X11_nextPick (nI m) y = some (1, y') ∧ yF (fun q _ => q = 314) y y' ∧ ∀ l, l < m → y'.1 314 l = nI (nxrw r i l)) ∨ ((∀ l, l < m → ¬ r l < N - m + l) ∧ f_X11_nextPick (nI m) y = some (0, y)) := by
  unfold f_X11_nextPick
  rcases np_L4 (m := m) (N := N) (r := r) y hm hN hmN h62 (fun j hj => ⟨hr j hj, by have := h.1 j hj; omega⟩) (fun v1 => (if m_in v1 4 = true then (if m_in v1 4 = true then (m_let (m_ys y 314 v1.toNatClampNeg ((y.1 314 v1.toNatClampNeg) + (1 : Int32))) fun y2 => (f_X11_nextPick_L42 (nI m) mF (v1 + (1 : Int32)) y2)) else none) else none)) m mF (Nat.le_refl m) (Nat.lt_trans hm (by decide)) (fun l h1 h2 => by omega) with ⟨i, i1, i2, i3, i4⟩ | ⟨i1, i2⟩
  · left
    rw [i4]
    rw [if_pos (in_ok (by omega) (by decide)), if_pos (in_ok (by omega) (by decide)), cl (by omega), m_let, hr i i1, nI_1, nI_1]
    obtain ⟨y', e1, e2, e3⟩ := np_L42 (m := m) (i := i) (r := r) y hm i1 (m_ys y 314 i (nI (r i + 1))) (yF_set (yF_rf _ y) rfl) (fun l hl => by
      by_cases e : l = i
      · subst e
        rw [ys_eq, nxrw_ge (Nat.le_refl _)]
        congr 1
        omega
      · rw [ys_ec e, nxrw_lt (show l < i by omega)]
        exact hr l (by omega))
    exact ⟨i, y', i1, i2, i3, e1, e2, e3⟩
  · right
    exact ⟨i1, i2⟩
end S7
