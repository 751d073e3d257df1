/-! ===== lay, learn ===== -/
section SU
variable {np rt : Nat} {x x' : mX} {y y' : mY} {σ σ' : Nat → Int32} {P L : Int32} {p1 p2 p3 : Int32}
theorem netLinks_w {np : Nat} (y : mY) (w1 : np ≤ 8) (w2 : y.1 289 4 = nI (sm (y.1 289))) (w3 : sm (y.1 289) ≤ 16) (w7 : ∀ l, l < sm (y.1 289) → ∃ a b, a < np ∧ b < np ∧ a ≠ b ∧ y.1 289 (8 + l) = nI a ∧ y.1 289 (24 + l) = nI b) : ∃ V, f_X11_netLinks y = some V ∧ sL (y.1 289) V := by
  unfold f_X11_netLinks
  refine lp_ok (sm (y.1 289)) (fun n b (s : Int32) => f_X11_netLinks_L4 n s b y) (fun j s => ∀ l, bt s l = true ↔ l < j ∧ bt (y.1 289 1) l = true ∧ ∀ p q, p < 8 → q < 8 → sE (y.1 289) l p q → bt (y.1 289 0) p = true) ?_ ?_ mF 0 0 (Nat.lt_of_le_of_lt w3 (by decide)) (by omega) (fun l => by rw [b_0]; exact ⟨fun h => (by cases h), fun h => absurd h.1 (by omega)⟩)
  · intro n s hI
    show ∃ r, f_X11_netLinks_L4 (n + 1) s (nI (sm (y.1 289))) y = some r ∧ _
    rw [f_X11_netLinks_L4, if_pos (by rw [w2]; exact (nI_leI (by omega) (by omega)).mpr (Nat.le_refl _))]
    exact ⟨s, rfl, hI⟩
  · intro n j s hj hI ih
    show ∃ r, f_X11_netLinks_L4 (n + 1) s (nI j) y = some r ∧ _
    rw [f_X11_netLinks_L4, if_neg (by rw [w2]; exact fun z => absurd ((nI_leI (by omega) (by omega)).mp z) (by omega)), nI_1]
    have skip : ¬ (bt (y.1 289 1) j = true ∧ ∀ p q, p < 8 → q < 8 → sE (y.1 289) j p q → bt (y.1 289 0) p = true) → ∃ r, f_X11_netLinks_L4 n s (nI (j + 1)) y = some r ∧ sL (y.1 289) r := by
      intro hno
      refine ih s (fun l => ?_)
      rw [hI l]
      refine ⟨fun h => ⟨by omega, h.2⟩, fun h => ⟨?_, h.2⟩⟩
      have : l ≠ j := fun e => hno (e ▸ h.2)
      omega
    by_cases hu : bt (y.1 289 1) j = true
    · obtain ⟨p, q, hp, hq, hpq, e1, e2⟩ := w7 j hj
      have key := sL_l (V := 0) (σ := y.1 289) (l := j) (a := p) (b := q) (by omega) (by omega) e1 e2
      rw [if_neg (h11t (by omega) hu), a8, a24, if_pos (in_ok (by omega) (by decide)), cl (by omega), cl (by omega), e1, e2, isOn_ok (by omega), Option.bind_some]
      by_cases hp1 : bt (y.1 289 0) p = true
      · rw [if_pos hp1, if_neg (by decide), if_pos (in_ok (by omega) (by decide)), isOn_ok (by omega), Option.bind_some]
        by_cases hq1 : bt (y.1 289 0) q = true
        · rw [if_pos hq1, if_neg (by decide)]
          refine ih _ (fun l => ?_)
          rw [b_or, b_bit (by omega), Bool.or_eq_true, decide_eq_true_eq, hI l]
          constructor
          · rintro (h | rfl)
            · exact ⟨by omega, h.2⟩
            · exact ⟨by omega, hu, key.mpr ⟨hp1, hq1⟩⟩
          · intro h
            by_cases e : l = j
            · exact Or.inr e
            · exact Or.inl ⟨by omega, h.2⟩
        · rw [if_neg hq1, if_pos rfl]
          exact skip (fun h => hq1 (key.mp h.2).2)
      · rw [if_neg hp1, if_pos rfl]
        exact skip (fun h => hp1 (key.mp h.2).1)
    · rw [if_pos (h11f (by omega) hu)]
      exact skip (fun h => hu h.1)

theorem add_ok (x : mX) {m : Nat} (hm : m < 16) (h1 : x.1 14 1 = nI m) (a b c : Int32) : ∃ x1, f_X6_add 14 a b c x = some x1 ∧ (∀ q, ¬ (14 ≤ q ∧ q ≤ 18) → x1.1 q = x.1 q) ∧ x1.1 14 1 = nI (m + 1) ∧ x1.1 14 3 = x.1 14 3 ||| ((1 : Int32) <<< (nI m &&& 31)) ∧ (∀ k, k ≠ 1 → k ≠ 3 → x1.1 14 k = x.1 14 k) ∧ (x1.1 15 m = a ∧ x1.1 16 m = b ∧ x1.1 17 m = c ∧ x1.1 18 m = 0) ∧ ∀ i, i ≠ m → x1.1 15 i = x.1 15 i ∧ x1.1 16 i = x.1 16 i ∧ x1.1 17 i = x.1 17 i ∧ x1.1 18 i = x.1 18 i := by
  unfold f_X6_add
  have i16 : m_in (nI m) 16 = true := in_ok hm (by decide)
  rw [h1, if_pos (show nI m < (16 : Int32) from nI_lt (b := 16) hm (by decide)), if_pos i16, m_let, cl (by omega), xs_ne (show 14 ≠ 14 + 1 by decide), h1, if_pos i16, m_let, cl (by omega), xs_ne (show 14 ≠ 14 + 2 by decide), xs_ne (show 14 ≠ 14 + 1 by decide), h1, if_pos i16, m_let, cl (by omega), xs_ne (show 14 ≠ 14 + 3 by decide), xs_ne (show 14 ≠ 14 + 2 by decide), xs_ne (show 14 ≠ 14 + 1 by decide), h1, if_pos i16, m_let, cl (by omega), m_let, m_let]
  refine ⟨_, rfl, fun q hq => ?_, ?_, ?_, fun k k1 k3 => ?_, ⟨?_, ?_, ?_, ?_⟩, fun i hi => ⟨?_, ?_, ?_, ?_⟩⟩
  · rw [xs_ne (by omega), xs_ne (by omega), xs_ne (by omega), xs_ne (by omega), xs_ne (by omega), xs_ne (by omega)]
  · rw [xs_eq, xs_ec (by decide), xs_ne (by decide), xs_ne (by decide), xs_ne (by decide), xs_ne (by decide), h1, nI_1]
  · rw [xs_ec (by decide), xs_eq, xs_ne (by decide), xs_ne (by decide), xs_ne (by decide), xs_ne (by decide), h1]
  · rw [xs_ec k1, xs_ec k3, xs_ne (by decide), xs_ne (by decide), xs_ne (by decide), xs_ne (by decide)]
  · rw [xs_ne (by decide), xs_ne (by decide), xs_ne (by decide), xs_ne (by decide), xs_ne (by decide), show 14 + 1 = 15 from rfl, xs_eq]
  · rw [xs_ne (by decide), xs_ne (by decide), xs_ne (by decide), xs_ne (by decide), show 14 + 2 = 16 from rfl, xs_eq]
  · rw [xs_ne (by decide), xs_ne (by decide), xs_ne (by decide), show 14 + 3 = 17 from rfl, xs_eq]
  · rw [xs_ne (by decide), xs_ne (by decide), show 14 + 4 = 18 from rfl, xs_eq]
  · rw [xs_ne (by decide), xs_ne (by decide), xs_ne (by decide), xs_ne (by decide), xs_ne (by decide), show 14 + 1 = 15 from rfl, xs_ec hi]
  · rw [xs_ne (by decide), xs_ne (by decide), xs_ne (by decide), xs_ne (by decide), show 14 + 2 = 16 from rfl, xs_ec hi, xs_ne (by decide)]
  · rw [xs_ne (by decide), xs_ne (by decide), xs_ne (by decide), show 14 + 3 = 17 from rfl, xs_ec hi, xs_ne (by decide), xs_ne (by decide)]
  · rw [xs_ne (by decide), xs_ne (by decide), show 14 + 4 = 18 from rfl, xs_ec hi, xs_ne (by decide), xs_ne (by decide), xs_ne (by decide)]
/-- a link more -/
theorem sW_add {m a b c : Nat} (h : sW σ np) (hm : sm σ = m) (m16 : m < 16) (ha : a < np) (hb : b < np) (hab : a ≠ b) (c1 : 1 ≤ c) (c99 : c ≤ 99) (hno : ∀ l, l < m → ¬ sE σ l a b) (h0 : σ' 0 = σ 0) (h2 : σ' 2 = σ 2) (h3 : σ' 3 = σ 3) (h4 : σ' 4 = nI (m + 1)) (e1 : σ' (8 + m) = nI a) (e2 : σ' (24 + m) = nI b) (e3 : σ' (40 + m) = nI c) (he : ∀ l, l < m → σ' (8 + l) = σ (8 + l) ∧ σ' (24 + l) = σ (24 + l) ∧ σ' (40 + l) = σ (40 + l)) : sm σ' = m + 1 ∧ sW σ' np := by
  obtain ⟨w1, w2, w3, w4, w5, w6, w7, w8, w9⟩ := h
  have es : sm σ' = m + 1 := by unfold sm; rw [h4, cl (by omega)]
  rw [hm] at w6 w7 w8 w9
  have eE : ∀ l, l < m → ∀ p q, sE σ' l p q ↔ sE σ l p q := fun l hl p q => sE_cg ⟨(he l hl).1, (he l hl).2.1⟩
  have last : ∀ p q, p < 8 → q < 8 → sE σ' m p q → ∀ l, l < m → ¬ sE σ l p q := fun p q p8 q8 z l hl z2 => by
    rcases (sE_iff (by omega) (by omega) p8 q8 e1 e2).mp z with ⟨rfl, rfl⟩ | ⟨rfl, rfl⟩
    · exact hno l hl z2
    · exact hno l hl (sE_sy z2)
  refine ⟨es, w1, by rw [es, h4], by omega, by rw [h0]; exact w4, by rw [h2]; exact w5, ?_, ?_, ?_, ?_⟩
  · rw [h3, h2, es]
    exact fun l hl => ⟨by have := (w6 l hl).1; omega, fun p q p8 q8 z => (w6 l hl).2 p q p8 q8 ((eE l (w6 l hl).1 p q).mp z)⟩
  · rw [es]
    intro l hl
    by_cases e : l = m
    · subst e
      exact ⟨a, b, ha, hb, hab, e1, e2⟩
    · rw [(he l (by omega)).1, (he l (by omega)).2.1]
      exact w7 l (by omega)
  · rw [es]
    intro l k p q hl hk p8 q8 z1 z2
    by_cases el : l = m
    · by_cases ek : k = m
      · omega
      · subst el
        exact absurd ((eE k (by omega) p q).mp z2) (last p q p8 q8 z1 k (by omega))
    · by_cases ek : k = m
      · subst ek
        exact absurd ((eE l (by omega) p q).mp z1) (last p q p8 q8 z2 l (by omega))
      · exact w8 l k p q (by omega) (by omega) p8 q8 ((eE l (by omega) p q).mp z1) ((eE k (by omega) p q).mp z2)
  · rw [es]
    intro l hl
    by_cases e : l = m
    · subst e
      exact ⟨c, c1, c99, e3⟩
    · rw [(he l (by omega)).2.2]
      exact w9 l (by omega)
end SU
