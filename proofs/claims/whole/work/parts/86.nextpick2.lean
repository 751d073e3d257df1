/-! ===== grow: the reference's next row of picks (2) ===== -/
section S6
theorem np_L42 {m i : Nat} {r : Nat → Nat} (y : mY) (hm : m < 5) (hi : i < m) (s : mY) (hs : yF (fun q _ => q = 314) y s) (hr : ∀ l, l < i + 1 → s.1 314 l = nI (nxrw r i l)) : ∃ y', f_X11_nextPick_L42 (nI m) mF (nI (i + 1)) s = some (1, y') ∧ yF (fun q _ => q = 314) y y' ∧ ∀ l, l < m → y'.1 314 l = nI (nxrw r i l) := by
  refine lp_up m (fun n b (s : mY) => f_X11_nextPick_L42 (nI m) n b s) (fun j s => i < j ∧ yF (fun q _ => q = 314) y s ∧ ∀ l, l < j → s.1 314 l = nI (nxrw r i l)) (fun o => ∃ y', o = some (1, y') ∧ yF (fun q _ => q = 314) y y' ∧ ∀ l, l < m → y'.1 314 l = nI (nxrw r i l)) ?_ ?_ mF (i + 1) s (Nat.lt_of_lt_of_le (show m < mF from Nat.lt_trans hm (by decide)) (Nat.le_add_left _ _)) (by omega) ⟨by omega, hs, hr⟩
  · rintro n s ⟨_, h1, h2⟩
    show ∃ y', f_X11_nextPick_L42 (nI m) (n + 1) (nI m) s = some (1, y') ∧ _
    rw [f_X11_nextPick_L42, if_pos (nI_le (Nat.le_refl m) (by omega))]
    exact ⟨s, rfl, h1, h2⟩
  · rintro n j s hj ⟨h0, h1, h2⟩ ih
    show ∃ y', f_X11_nextPick_L42 (nI m) (n + 1) (nI j) s = some (1, y') ∧ _
    rw [f_X11_nextPick_L42, if_neg (nI_ge hj (by omega)), nI_p (by omega), if_pos (in_ok (by omega) (by decide)), if_pos (in_ok (by omega) (by decide)), cl (by omega), cl (by omega), m_let, nI_1, h2 (j - 1) (by omega), nI_1]
    refine ih _ ⟨by omega, yF_set h1 rfl, fun l hl => ?_⟩
    by_cases e : l = j
    · subst e
      rw [ys_eq, nxrw_ge (by omega), nxrw_ge (by omega)]
      congr 1
      omega
    · rw [ys_ec e]
      exact h2 l (by omega)
end S6
