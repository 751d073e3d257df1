/-! ===== grow: the reference's list of links (2) ===== -/
section S2
variable {A : Nat → Nat → Prop} {P : Int32}
theorem gL13_ok {np : Nat} (hnp : np ≤ 8) (y0 : mY) (hp : y0.1 279 17 = nI np) (hP : y0.1 289 0 = P) (hb : ∀ i, bt P i = true → i < np) (hr : ∀ p, p < 8 → ∀ q, q < 8 → (bt (y0.1 293 p) q = true ↔ A p q)) (kk : mY → Option (Int32 × mY)) (y : mY) (hI : glk A P y0 0 y) : ∃ y', glk A P y0 64 y' ∧ f_X11_grow_L13 mF 0 y kk = kk y' := by
  have z := lp_up np (fun n b (s : mY) => f_X11_grow_L13 n b s kk) (fun a s => glk A P y0 (8 * a) s) (fun o => ∃ y', glk A P y0 64 y' ∧ o = kk y') (by
    intro n s hI
    show ∃ y', glk A P y0 64 y' ∧ f_X11_grow_L13 (n + 1) (nI np) s kk = kk y'
    have e17 : s.1 279 17 = nI np := by rw [hI.1.1 279 17 (by unfold gL_W; omega)]; exact hp
    rw [f_X11_grow_L13, if_pos (show s.1 279 17 ≤ nI np by rw [e17]; exact nI_le (Nat.le_refl _) (by omega))]
    have t := glk_far (64 - 8 * np) (fun d h1 h2 hu => by
      have := hb _ hu.1
      omega) hI
    rw [show 8 * np + (64 - 8 * np) = 64 by omega] at t
    exact ⟨s, t, rfl⟩) (by
    intro n a s ha hI ih
    show ∃ y', glk A P y0 64 y' ∧ f_X11_grow_L13 (n + 1) (nI a) s kk = kk y'
    have e17 : s.1 279 17 = nI np := by rw [hI.1.1 279 17 (by unfold gL_W; omega)]; exact hp
    rw [f_X11_grow_L13, if_neg (show ¬ s.1 279 17 ≤ nI a by rw [e17]; exact nI_ge ha (by omega)), nI_1]
    have far := glk_far (a + 1) (fun d h1 h2 hu => by
      have := hu.2.2.1
      omega) hI
    obtain ⟨y', g1, g2⟩ := gL25_ok hnp ha y0 hp hP hr (fun y7 => f_X11_grow_L13 n (nI (a + 1)) y7 kk) s far
    rw [g2]
    have t := glk_far (8 - np) (fun d h1 h2 hu => by
      have := hb _ hu.2.1
      omega) g1
    rw [show 8 * a + np + (8 - np) = 8 * (a + 1) by omega] at t
    exact ih y' t) mF 0 y (Nat.lt_of_lt_of_le (show np < mF from Nat.lt_of_le_of_lt hnp (by decide)) (Nat.le_add_left _ _)) (Nat.zero_le _) hI
  exact z
/-- the links of codes are all there are -/
theorem ucn_all (hN : g_N A (bS P)) : ∀ a b, bS P a → bS P b → a ≠ b → ¬ A a b → ∃ j, j < 64 ∧ ucn A P j ∧ ((j / 8 = a ∧ j % 8 = b) ∨ (j / 8 = b ∧ j % 8 = a)) := by
  intro a b ha hb hab hn
  have a8 := hN.2.2 a ha
  have b8' := hN.2.2 b hb
  have mk : ∀ a b, a < 8 → b < 8 → bS P a → bS P b → a < b → ¬ A a b → 8 * a + b < 64 ∧ ucn A P (8 * a + b) ∧ (8 * a + b) / 8 = a ∧ (8 * a + b) % 8 = b := fun a b h1 h2 h3 h4 h5 h6 => by
    have e1 : (8 * a + b) / 8 = a := by omega
    have e2 : (8 * a + b) % 8 = b := by omega
    exact ⟨by omega, by unfold ucn; rw [e1, e2]; exact ⟨h3, h4, h5, h6⟩, e1, e2⟩
  rcases Nat.lt_or_gt_of_ne hab with h | h
  · obtain ⟨h1, h2, h3, h4⟩ := mk a b a8 b8' ha hb h hn
    exact ⟨_, h1, h2, Or.inl ⟨h3, h4⟩⟩
  · obtain ⟨h1, h2, h3, h4⟩ := mk b a b8' a8 hb ha h (fun z => hn (hN.1 _ _ z))
    exact ⟨_, h1, h2, Or.inr ⟨h3, h4⟩⟩
/-- the class's picks tie and are as many as the need -/
theorem gS_td (hN : g_N A (bS P)) {S : Nat → Prop} (h : gS A P S 64) : td (pn A S 64) (bS P) ∧ g_n S 64 = nd A (bS P) := gd_td hN (ucn_lk 64) (ucn_all hN) (gS_gd h)
end S2
