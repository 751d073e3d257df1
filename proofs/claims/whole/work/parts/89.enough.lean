/-! ===== grow: the reference's tries of so many links ===== -/
section S9
variable {A : Nat → Nat → Prop} {P : Int32} {m np : Nat} {r : Nat → Nat}
theorem cod_d : ∀ c, c < 64 → nI (10 * (c / 8) + c % 8) / (10 : Int32) = nI (c / 8) := by decide +kernel
theorem cod_m : ∀ c, c < 64 → nI (10 * (c / 8) + c % 8) - nI (c / 8) * (10 : Int32) = nI (c % 8) := by decide +kernel
theorem a16w (n : Nat) : (16 : Int32) + nI n = nI (16 + n) := nI_add 16 n
/-- what a try may write -/
def gE_W (q c : Nat) : Prop := q = 314 ∨ (q = 293 ∧ 16 ≤ c ∧ c < 24)
def gN_W (q c : Nat) : Prop := q = 293 ∧ 16 ≤ c ∧ c < 24
theorem isTied_ok (y : mY) (h8 : b8 (y.1 289 0)) (hA : ∀ a b, A a b → A b a) (hE : nA (fun p => y.1 293 (8 * 2 + p)) = A) : (td A (bS (y.1 289 0)) ∧ f_X11_isTied y = some 1) ∨ (¬ td A (bS (y.1 289 0)) ∧ f_X11_isTied y = some 0) := by
  unfold f_X11_isTied
  rw [bitsOf_ok h8, Option.bind_some]
  have hb := g_n_bound (P := bS (y.1 289 0)) 8
  by_cases c : g_n (bS (y.1 289 0)) 8 < 2
  · left
    exact ⟨Or.inl c, by rw [if_pos (show nI (g_n (bS (y.1 289 0)) 8) < (2 : Int32) from nI_lt (b := 2) c (by decide))]⟩
  · rw [if_neg (show ¬ nI (g_n (bS (y.1 289 0)) 8) < (2 : Int32) from nI_nlt (b := 2) (by omega) (by omega))]
    rcases isTight_ok (w := 2) (by decide) h8 y hA hE with ⟨h1, h2⟩ | ⟨h1, h2⟩
    · left
      refine ⟨Or.inr h1, ?_⟩
      rw [show (2 : Int32) = nI 2 from rfl, h2, Option.bind_some, if_neg (by decide)]
    · right
      refine ⟨fun z => z.elim c h1, ?_⟩
      rw [show (2 : Int32) = nI 2 from rfl, h2, Option.bind_some, if_pos rfl]
/-- the first row -/
theorem aE_L12 (y : mY) (hm : m < 5) (kk : mY → Option (Int32 × mY)) : ∃ y', yF (fun q _ => q = 314) y y' ∧ (∀ j, j < m → y'.1 314 j = nI j) ∧ f_X11_areEnough_L12 (nI m) mF 0 y kk = kk y' := by
  have z := lp_up m (fun n b (s : mY) => f_X11_areEnough_L12 (nI m) n b s kk) (fun j s => yF (fun q _ => q = 314) y s ∧ ∀ l, l < j → s.1 314 l = nI l) (fun o => ∃ y', yF (fun q _ => q = 314) y y' ∧ (∀ j, j < m → y'.1 314 j = nI j) ∧ o = kk y') (by
    rintro n s ⟨h1, h2⟩
    show ∃ y', _ ∧ _ ∧ f_X11_areEnough_L12 (nI m) (n + 1) (nI m) s kk = kk y'
    rw [f_X11_areEnough_L12, if_pos (nI_le (Nat.le_refl m) (by omega))]
    exact ⟨s, h1, h2, rfl⟩) (by
    rintro n j s hj ⟨h1, h2⟩ ih
    show ∃ y', _ ∧ _ ∧ f_X11_areEnough_L12 (nI m) (n + 1) (nI j) s kk = kk y'
    rw [f_X11_areEnough_L12, if_neg (nI_ge hj (by omega)), if_pos (in_ok (by omega) (by decide)), cl (by omega), m_let, nI_1]
    refine ih _ ⟨yF_set h1 rfl, fun l hl => ?_⟩
    by_cases e : l = j
    · subst e
      rw [ys_eq]
    · rw [ys_ec e]
      exact h2 l (by omega)) mF 0 y (Nat.lt_of_lt_of_le (show m < mF from Nat.lt_trans hm (by decide)) (Nat.le_add_left _ _)) (Nat.zero_le _) ⟨yF_rf _ y, fun l hl => by omega⟩
  exact z
/-- a row's links laid on net 2 -/
theorem aE_L43 (y : mY) (hm : m < 5) (hl : ∀ d, d < 64 → ucn A P d → y.1 313 (g_n (ucn A P) d) = nI (10 * (d / 8) + d % 8)) (hr : ∀ j, j < m → y.1 314 j = nI (r j)) (h : ricr m (g_n (ucn A P) 64) r) (hA : ∀ p, p < 8 → ∀ q, bt (y.1 293 (16 + p)) q = true ↔ A p q) (hA8 : ∀ a b, A a b → a < 8 ∧ b < 8) (kk : mY → Option (Int32 × mY)) : ∃ y', yF gN_W y y' ∧ nA (fun p => y'.1 293 (8 * 2 + p)) = pn A (tSr A P r m) 64 ∧ f_X11_areEnough_L43 (nI m) mF 0 y kk = kk y' := by
  have z := lp_up m (fun n b (s : mY) => f_X11_areEnough_L43 (nI m) n b s kk) (fun j s => yF gN_W y s ∧ ∀ p, p < 8 → ∀ q, bt (s.1 293 (16 + p)) q = true ↔ A p q ∨ ∃ i, i < j ∧ ((p = cdo A P (r i) / 8 ∧ q = cdo A P (r i) % 8) ∨ (p = cdo A P (r i) % 8 ∧ q = cdo A P (r i) / 8))) (fun o => ∃ y', yF gN_W y y' ∧ nA (fun p => y'.1 293 (8 * 2 + p)) = pn A (tSr A P r m) 64 ∧ o = kk y') (by
    rintro n s ⟨h1, h2⟩
    show ∃ y', _ ∧ _ ∧ f_X11_areEnough_L43 (nI m) (n + 1) (nI m) s kk = kk y'
    rw [f_X11_areEnough_L43, if_pos (nI_le (Nat.le_refl m) (by omega))]
    refine ⟨s, h1, ?_, rfl⟩
    funext p q
    apply propext
    constructor
    · rintro ⟨p8, q8, hb⟩
      rcases (h2 p p8 q).mp hb with k | ⟨i, i1, i2⟩
      · exact Or.inl k
      · exact Or.inr ⟨cdo A P (r i), (cdo_ok (h.1 i i1)).1, ⟨i, i1, rfl⟩, i2⟩
    · rintro (k | ⟨c, c1, ⟨i, i1, rfl⟩, i2⟩)
      · have := hA8 p q k
        exact ⟨this.1, this.2, (h2 p this.1 q).mpr (Or.inl k)⟩
      · dsimp only at i2
        have p8 : p < 8 := by omega
        have q8 : q < 8 := by omega
        exact ⟨p8, q8, (h2 p p8 q).mpr (Or.inr ⟨i, i1, i2⟩)⟩) (by
    rintro n j s hj ⟨h1, h2⟩ ih
    show ∃ y', _ ∧ _ ∧ f_X11_areEnough_L43 (nI m) (n + 1) (nI j) s kk = kk y'
    have kj := cdo_ok (h.1 j hj)
    have r28 : r j < 28 := by
      have := ucn_28 kj.1 kj.2.1
      rw [kj.2.2] at this
      exact this
    have e314 : s.1 314 j = nI (r j) := by rw [h1.1 314 j (by unfold gN_W; omega)]; exact hr j hj
    have e313 : s.1 313 (r j) = nI (10 * (cdo A P (r j) / 8) + cdo A P (r j) % 8) := by
      rw [h1.1 313 (r j) (by unfold gN_W; omega)]
      have := hl _ kj.1 kj.2.1
      rw [kj.2.2] at this
      exact this
    have ne : cdo A P (r j) / 8 ≠ cdo A P (r j) % 8 := Nat.ne_of_lt kj.2.1.2.2.1
    have lt : cdo A P (r j) < 64 := kj.1
    rw [f_X11_areEnough_L43, if_neg (nI_ge hj (by omega)), if_pos (in_ok (by omega) (by decide)), cl (show j < 100000 by omega), e314, if_pos (in_ok r28 (by decide)), if_pos (in_ok (by omega) (by decide)), if_pos (in_ok r28 (by decide)), cl (show r j < 100000 by omega), e313, cod_d _ lt, cod_m _ lt, a16w, if_pos (in_ok (by omega) (by decide)), if_pos (in_ok (by omega) (by decide)), cl (by omega), m_let, a16w, if_pos (in_ok (by omega) (by decide)), if_pos (in_ok (by omega) (by decide)), cl (by omega), m_let, nI_1]
    refine ih _ ⟨yF_set (yF_set h1 ⟨rfl, by omega, by omega⟩) ⟨rfl, by omega, by omega⟩, fun p hp q => ?_⟩
    have t := row_or (f := s.1 293) (base := 16) (a := cdo A P (r j) / 8) (b := cdo A P (r j) % 8) (by omega) (by omega) ne (g := (m_ys (m_ys s 293 (16 + cdo A P (r j) / 8) (s.1 293 (16 + cdo A P (r j) / 8) ||| ((1 : Int32) <<< (nI (cdo A P (r j) % 8) &&& 31)))) 293 (16 + cdo A P (r j) % 8) ((m_ys s 293 (16 + cdo A P (r j) / 8) (s.1 293 (16 + cdo A P (r j) / 8) ||| ((1 : Int32) <<< (nI (cdo A P (r j) % 8) &&& 31)))).1 293 (16 + cdo A P (r j) % 8) ||| ((1 : Int32) <<< (nI (cdo A P (r j) / 8) &&& 31)))).1 293) (by rw [ys_eq, ys_ec (by omega)]) (by rw [ys_ec (by omega), ys_eq]) (fun p' _ h1 h2 => by rw [ys_ec (by omega), ys_ec (by omega)]) p hp q
    rw [t, h2 p hp q]
    constructor
    · rintro ((k | ⟨i, i1, i2⟩) | k | k)
      · exact Or.inl k
      · exact Or.inr ⟨i, by omega, i2⟩
      · exact Or.inr ⟨j, by omega, Or.inl k⟩
      · exact Or.inr ⟨j, by omega, Or.inr k⟩
    · rintro (k | ⟨i, i1, i2⟩)
      · exact Or.inl (Or.inl k)
      · by_cases e : i = j
        · subst e
          exact Or.inr i2
        · exact Or.inl (Or.inr ⟨i, by omega, i2⟩)) mF 0 y (Nat.lt_of_lt_of_le (show m < mF from Nat.lt_trans hm (by decide)) (Nat.le_add_left _ _)) (Nat.zero_le _) ⟨yF_rf _ y, fun p hp q => ⟨fun k => Or.inl ((hA p hp q).mp k), fun k => k.elim (fun k => (hA p hp q).mpr k) (fun ⟨i, i1, _⟩ => absurd i1 (Nat.not_lt_zero i))⟩⟩
  exact z
end S9
