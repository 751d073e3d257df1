/-! ===== the text: the reference's lines, steps ===== -/
section TI
variable {B : Nat → Nat} {b M k e p l : Nat} {sh : List Nat} {y y' yb : mY} {R : Nat × Nat × Nat}
theorem mcF_fu : ∀ n m k sh p l, 401 - k < n → 401 - k < m → k ≤ 400 → mcF B b n k sh p l = mcF B b m k sh p l
  | 0, _, _, _, _, _, h, _, _ => absurd h (Nat.not_lt_zero _)
  | _ + 1, 0, _, _, _, _, _, h, _ => absurd h (Nat.not_lt_zero _)
  | n + 1, m + 1, k, sh, p, l, h1, h2, hk => by
    by_cases h0 : kdK B b k = 0
    · rw [mcF_e h0, mcF_e h0]
    · cases sh with
      | nil =>
        rw [mcF_n h0, mcF_n h0]
        by_cases c1 : kdK B b k < 20
        · rw [if_pos c1, if_pos c1]
        rw [if_neg c1, if_neg c1]
        by_cases c2 : 400 ≤ k ∨ (kdK B b k = 20 ∧ p = 8) ∨ (kdK B b k = 21 ∧ l = 16)
        · rw [if_pos c2, if_pos c2]
        rw [if_neg c2, if_neg c2]
        exact mcF_fu n m (k + 1) _ _ _ (by omega) (by omega) (by omega)
      | cons e t =>
        rw [mcF_c h0, mcF_c h0]
        by_cases c1 : kdK B b k = e
        · rw [if_pos c1, if_pos c1]
          by_cases c2 : 400 ≤ k
          · rw [if_pos c2, if_pos c2]
          rw [if_neg c2, if_neg c2]
          exact mcF_fu n m (k + 1) _ _ _ (by omega) (by omega) (by omega)
        · rw [if_neg c1, if_neg c1]
theorem mcM_e (h : kdK B b k = 0) : mcF B b mF k sh p l = if sh = [] then (0, 0, k) else (1, b, k) := mcF_e (n := 99999) h
theorem mF_lt {k : Nat} : 401 - k < 99999 ∧ 401 - k < mF := ⟨by omega, Nat.lt_of_le_of_lt (show 401 - k ≤ 401 by omega) (by decide)⟩
theorem mcM_c (h : ¬ kdK B b k = 0) : mcF B b mF k (e :: sh) p l = if kdK B b k = e then (if 400 ≤ k then (2, tkS B b k, k) else mcF B b mF (k + 1) sh p l) else (1, tkS B b k, k) := by
  have t : mcF B b mF k (e :: sh) p l = _ := mcF_c (n := 99999) h
  rw [t]
  by_cases c2 : 400 ≤ k
  · rw [if_pos c2, if_pos c2]
  · rw [if_neg c2, if_neg c2, mcF_fu 99999 mF (k + 1) sh p l mF_lt.1 mF_lt.2 (by omega)]
theorem mcM_n (h : ¬ kdK B b k = 0) : mcF B b mF k [] p l = if kdK B b k < 20 then (1, tkS B b k, k) else if 400 ≤ k ∨ (kdK B b k = 20 ∧ p = 8) ∨ (kdK B b k = 21 ∧ l = 16) then (2, tkS B b k, k) else mcF B b mF (k + 1) (shp (kdK B b k)) (if kdK B b k = 20 then p + 1 else p) (if kdK B b k = 21 then l + 1 else l) := by
  have t : mcF B b mF k [] p l = _ := mcF_n (n := 99999) h
  rw [t]
  by_cases c2 : 400 ≤ k ∨ (kdK B b k = 20 ∧ p = 8) ∨ (kdK B b k = 21 ∧ l = 16)
  · rw [if_pos c2, if_pos c2]
  · rw [if_neg c2, if_neg c2, mcF_fu 99999 mF (k + 1) _ _ _ mF_lt.1 mF_lt.2 (by omega)]
theorem kdK_b (k : Nat) : kdK B b k < 25 := by
  unfold kdK
  split
  · exact isKd_25 (kdT_k _ _)
  · decide
theorem tkS_e (h : kdK B b k = 0) : tkS B b k = b := by
  have t := (kdK_0 k).mp h
  have u := tkS_b (B := B) (b := b) k
  omega
/-- the reference's tokens in its memory -/
def yMt (B : Nat → Nat) (b M : Nat) (y : mY) : Prop := M ≤ 401 ∧ (∀ j, j < M → yTo B b y j) ∧ ∀ k, k ≤ 400 → (∀ j, j < k → kdK B b j ≠ 0) → k < M
theorem yMt_e {y0 : mY} (h : yEn B b y0 y M) : yMt B b M y := by
  refine ⟨h.2.1, h.1.2.2.2, fun k hk hz => ?_⟩
  rcases h.2.2.2 with c | ⟨c1, c2⟩
  · omega
  · refine Classical.byContradiction fun z => ?_
    exact hz (M - 1) (by omega) c2
theorem yMt_c (h : yMt B b M yb) (h2 : y.1 282 = yb.1 282) (h3 : y.1 283 = yb.1 283) (h4 : y.1 284 = yb.1 284) (h5 : y.2 285 = yb.2 285) : yMt B b M y := by
  refine ⟨h.1, fun j hj => ?_, h.2.2⟩
  unfold yTo
  rw [h2, h3, h4, h5]
  exact h.2.1 j hj
def lnW (q c : Nat) : Prop := q = 279 ∧ (c = 11 ∨ c = 12 ∨ c = 13)
theorem yMt_F (h : yMt B b M yb) (f : yF lnW yb y) : yMt B b M y := yMt_c h (yF_row f (fun c => by unfold lnW; omega)) (yF_row f (fun c => by unfold lnW; omega)) (yF_row f (fun c => by unfold lnW; omega)) (by rw [f.2])
theorem is_ok (hM : yMt B b M y) (h12 : y.1 279 12 = 0) (h11 : y.1 279 11 = nI k) (hk : k < M) (he : e < 25) : f_X11_is (nI e) y = some (if kdK B b k = e then 1 else 0) := by
  have m1 := hM.1
  have kb := kdK_b (B := B) (b := b) k
  unfold f_X11_is
  rw [if_pos h12, h11, if_pos (in_ok (by omega) (by decide)), cl (by omega), (hM.2.1 k hk).1]
  by_cases c : kdK B b k = e
  · rw [if_pos (by rw [c]), if_pos c]
  · rw [if_neg (fun z => c ((nI_eq (by omega) (by omega)).mp z)), if_neg c]
theorem is_f {p1 : Int32} (h12 : ¬ y.1 279 12 = 0) : f_X11_is p1 y = some 0 := by
  unfold f_X11_is
  rw [if_neg h12]
theorem fail_ok (hM : yMt B b M y) (h12 : y.1 279 12 = 0) (h11 : y.1 279 11 = nI k) (hk : k < M) (c : Int32) : f_X11_fail c y = some (m_ys (m_ys y 279 12 c) 279 13 (nI (tkS B b k))) := by
  have m1 := hM.1
  unfold f_X11_fail
  rw [h12, if_pos (by decide), m_let, ys_ec (by decide), h11, if_pos (in_ok (by omega) (by decide)), m_let, cl (by omega), ys_ne (by decide), (hM.2.1 k hk).2.1]
theorem fail_no {c : Nat} {p1 : Int32} (h : y.1 279 12 = nI c) (h0 : ¬ c = 0) (h6 : c < 6) : f_X11_fail p1 y = some y := by
  unfold f_X11_fail
  rw [h, if_neg (nI_nle (by omega) (by omega))]
/-- amid a line -/
def lnS (B : Nat → Nat) (b : Nat) (yb : mY) (R : Nat × Nat × Nat) (k : Nat) (sh : List Nat) (p l : Nat) (y : mY) : Prop :=
  yF lnW yb y ∧ ((¬ R.1 = 0 ∧ R.1 < 6 ∧ R.2.1 ≤ b ∧ y.1 279 12 = nI R.1 ∧ y.1 279 13 = nI R.2.1) ∨ (y.1 279 12 = 0 ∧ y.1 279 11 = nI k ∧ k ≤ 400 ∧ (∀ j, j < k → kdK B b j ≠ 0) ∧ R = mcF B b mF k sh p l))
theorem lnS_f {c : Nat} (f : yF lnW yb y) (hc : ¬ c = 0) (h6 : c < 6) (hR1 : R.1 = c) (hR2 : R.2.1 = tkS B b k) {k' p' l' : Nat} {sh' : List Nat} : lnS B b yb R k' sh' p' l' (m_ys (m_ys y 279 12 (nI c)) 279 13 (nI (tkS B b k))) := by
  refine ⟨yF_set (yF_set f ⟨rfl, by omega⟩) ⟨rfl, by omega⟩, Or.inl ⟨by omega, by omega, ?_, ?_, ?_⟩⟩
  · rw [hR2]; exact tkS_b k
  · rw [ys_ec (by decide), ys_eq, hR1]
  · rw [ys_eq, hR2]
theorem nI_n0 {c : Nat} (h0 : ¬ c = 0) (h6 : c < 6) : ¬ nI c = 0 := nI_ne0 (by omega) (by omega)
/-- a token is passed -/
theorem pass_s (hM : yMt B b M y) (f : yF lnW yb y) (h12 : y.1 279 12 = 0) (h11 : y.1 279 11 = nI k) (k4 : k ≤ 400) (hnz : ∀ j, j < k → kdK B b j ≠ 0) (k0 : kdK B b k ≠ 0) (hR : R = if 400 ≤ k then (2, tkS B b k, k) else mcF B b mF (k + 1) sh p l) : ∃ y', f_X11_passes y = some y' ∧ lnS B b yb R (k + 1) sh p l y' := by
  have hk := hM.2.2 k k4 hnz
  unfold f_X11_passes
  rw [h11]
  by_cases c : 400 ≤ k
  · rw [if_pos c] at hR
    rw [if_pos (show nI k = (400 : Int32) by rw [show k = 400 by omega]; rfl), fail_ok hM h12 h11 hk, Option.bind_some]
    exact ⟨_, rfl, lnS_f (c := 2) f (by decide) (by decide) (by rw [hR]) (by rw [hR])⟩
  · rw [if_neg c] at hR
    rw [if_neg (show ¬ nI k = (400 : Int32) from fun z => absurd ((nI_eq (b := 400) (by omega) (by decide)).mp z) (by omega)), m_let, nI_1]
    refine ⟨_, rfl, yF_set f ⟨rfl, by omega⟩, Or.inr ⟨?_, ys_eq _ _ _ _, by omega, fun j hj => ?_, hR⟩⟩
    · rw [ys_ec (by decide)]; exact h12
    · by_cases ej : j = k
      · rw [ej]; exact k0
      · exact hnz j (by omega)
theorem must_s (hM : yMt B b M yb) (he : e < 25) (he0 : e ≠ 0) (h : lnS B b yb R k (e :: sh) p l y) : ∃ y', f_X11_must (nI e) y = some y' ∧ lnS B b yb R (k + 1) sh p l y' ∧ (y'.1 279 12 = 0 → y.1 279 12 = 0 ∧ kdK B b k = e) := by
  obtain ⟨f, ⟨a1, a2, a3, a4, a5⟩ | ⟨a1, a2, a3, a4, a5⟩⟩ := h
  · unfold f_X11_must
    have n0 : ¬ y.1 279 12 = 0 := by rw [a4]; exact nI_n0 a1 a2
    rw [is_f n0, Option.bind_some, if_pos rfl, fail_no a4 a1 a2, Option.bind_some]
    exact ⟨y, rfl, ⟨f, Or.inl ⟨a1, a2, a3, a4, a5⟩⟩, fun z => absurd z n0⟩
  · have hMy := yMt_F hM f
    have hk := hMy.2.2 k a3 a4
    unfold f_X11_must
    rw [is_ok hMy a1 a2 hk he, Option.bind_some]
    by_cases c : kdK B b k = e
    · rw [if_pos c, if_neg (show ¬ (1 : Int32) = 0 by decide)]
      rw [mcM_c (by omega), if_pos c] at a5
      obtain ⟨y', u1, u2⟩ := pass_s hMy f a1 a2 a3 a4 (by omega) a5
      rw [u1, Option.bind_some]
      exact ⟨y', rfl, u2, fun _ => ⟨a1, c⟩⟩
    · rw [if_neg c, if_pos rfl, fail_ok hMy a1 a2 hk, Option.bind_some]
      have hR : R.1 = 1 ∧ R.2.1 = tkS B b k := by
        by_cases c0 : kdK B b k = 0
        · rw [mcM_e c0, if_neg (by intro z; cases z)] at a5
          rw [a5, tkS_e c0]
          exact ⟨rfl, rfl⟩
        · rw [mcM_c c0, if_neg c] at a5
          rw [a5]
          exact ⟨rfl, rfl⟩
      refine ⟨_, rfl, lnS_f (c := 1) f (by decide) (by decide) hR.1 hR.2, fun z => ?_⟩
      rw [ys_ec (by decide), ys_eq] at z
      exact absurd z (by decide)
end TI
