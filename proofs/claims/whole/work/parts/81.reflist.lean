/-! ===== grow: the reference's list of links to pick from ===== -/
section S1
variable {A : Nat → Nat → Prop} {P : Int32}
def gL_W (q c : Nat) : Prop := q = 313 ∨ (q = 279 ∧ c = 62)
/-- the list so far: codes below c -/
def glk (A : Nat → Nat → Prop) (P : Int32) (y0 : mY) (c : Nat) (y : mY) : Prop := yF gL_W y0 y ∧ y.1 279 62 = nI (g_n (ucn A P) c) ∧ ∀ d, d < c → ucn A P d → y.1 313 (g_n (ucn A P) d) = nI (10 * (d / 8) + d % 8)
theorem ucn_28 {c : Nat} (hc : c < 64) (h : ucn A P c) : g_n (ucn A P) c < 28 := by
  have e1 : g_n (fun i => decide (i / 8 < i % 8) = true) 64 = 28 := by rw [sumb_g]; decide
  have h1 : g_n (ucn A P) (c + 1) ≤ g_n (fun i => decide (i / 8 < i % 8) = true) (c + 1) := g_n_le _ (fun i _ hi => decide_eq_true hi.2.2.1)
  have h2 := g_n_add (P := fun i => decide (i / 8 < i % 8) = true) (c + 1) (64 - (c + 1))
  rw [show c + 1 + (64 - (c + 1)) = 64 by omega, e1] at h2
  rw [g_n_step _ h] at h1
  omega
theorem glk_skip {y0 y : mY} {c : Nat} (h : glk A P y0 c y) (hu : ¬ ucn A P c) : glk A P y0 (c + 1) y := by
  refine ⟨h.1, by rw [g_n_stay _ hu]; exact h.2.1, fun d hd hud => h.2.2 d ?_ hud⟩
  have : d ≠ c := fun e => hu (e ▸ hud)
  omega
theorem glk_far {y0 y : mY} {c : Nat} : ∀ n, (∀ d, c ≤ d → d < c + n → ¬ ucn A P d) → glk A P y0 c y → glk A P y0 (c + n) y
  | 0, _, h => h
  | n + 1, hn, h => glk_skip (glk_far n (fun d h1 h2 => hn d h1 (by omega)) h) (hn (c + n) (by omega) (by omega))
theorem glk_put {y0 y : mY} {c : Nat} (h : glk A P y0 c y) (hu : ucn A P c) : glk A P y0 (c + 1) (m_ys (m_ys y 313 (g_n (ucn A P) c) (nI (10 * (c / 8) + c % 8))) 279 62 (nI (g_n (ucn A P) c + 1))) := by
  refine ⟨yF_set (yF_set h.1 (Or.inl rfl)) (Or.inr ⟨rfl, rfl⟩), by rw [ys_eq, g_n_step _ hu], fun d hd hud => ?_⟩
  rw [ys_ne (by decide)]
  by_cases e : d = c
  · subst e
    rw [ys_eq]
  · have lt : g_n (ucn A P) d < g_n (ucn A P) c := by
      have h1 := g_n_add (P := ucn A P) (d + 1) (c - (d + 1))
      rw [show d + 1 + (c - (d + 1)) = c by omega, g_n_step _ hud] at h1
      omega
    rw [ys_ec (by omega)]
    exact h.2.2 d (by omega) hud
theorem gL25_ok {np a : Nat} (hnp : np ≤ 8) (ha : a < np) (y0 : mY) (hp : y0.1 279 17 = nI np) (hP : y0.1 289 0 = P) (hr : ∀ p, p < 8 → ∀ q, q < 8 → (bt (y0.1 293 p) q = true ↔ A p q)) (kk : mY → Option (Int32 × mY)) (y : mY) (hI : glk A P y0 (8 * a + (a + 1)) y) : ∃ y', glk A P y0 (8 * a + np) y' ∧ f_X11_grow_L25 (nI a) mF (nI (a + 1)) y kk = kk y' := by
  refine lp_up np (fun n b (s : mY) => f_X11_grow_L25 (nI a) n b s kk) (fun b s => a < b ∧ glk A P y0 (8 * a + b) s) (fun o => ∃ y', glk A P y0 (8 * a + np) y' ∧ o = kk y') ?_ ?_ mF (a + 1) y (Nat.lt_of_lt_of_le (show np < mF from Nat.lt_of_le_of_lt hnp (by decide)) (Nat.le_add_left _ _)) (by omega) ⟨by omega, hI⟩
  · rintro n s ⟨_, hI⟩
    show ∃ y', glk A P y0 (8 * a + np) y' ∧ f_X11_grow_L25 (nI a) (n + 1) (nI np) s kk = kk y'
    have e17 : s.1 279 17 = nI np := by rw [hI.1.1 279 17 (by unfold gL_W; omega)]; exact hp
    rw [f_X11_grow_L25, if_pos (show s.1 279 17 ≤ nI np by rw [e17]; exact nI_le (Nat.le_refl _) (by omega))]
    exact ⟨s, hI, rfl⟩
  · rintro n b s hb ⟨hab, hI⟩ ih
    show ∃ y', glk A P y0 (8 * a + np) y' ∧ f_X11_grow_L25 (nI a) (n + 1) (nI b) s kk = kk y'
    have e17 : s.1 279 17 = nI np := by rw [hI.1.1 279 17 (by unfold gL_W; omega)]; exact hp
    have e289 : s.1 289 0 = P := by rw [hI.1.1 289 0 (by unfold gL_W; omega)]; exact hP
    have e293 : s.1 293 a = y0.1 293 a := hI.1.1 293 a (by unfold gL_W; omega)
    have e1 : (8 * a + b) / 8 = a := by omega
    have e2 : (8 * a + b) % 8 = b := by omega
    have skip : ¬ ucn A P (8 * a + b) → ∃ y', glk A P y0 (8 * a + np) y' ∧ f_X11_grow_L25 (nI a) n (nI (b + 1)) s kk = kk y' := fun hu => ih s ⟨by omega, glk_skip hI hu⟩
    have un : ucn A P (8 * a + b) ↔ (bt P a = true ∧ bt P b = true ∧ a < b ∧ ¬ A a b) := by unfold ucn; rw [e1, e2]; exact Iff.rfl
    rw [f_X11_grow_L25, if_neg (show ¬ s.1 279 17 ≤ nI b by rw [e17]; exact nI_ge hb (by omega)), nI_1, isOn_ok (by omega), Option.bind_some, e289]
    by_cases c1 : bt P a = true
    · rw [if_pos c1, if_neg (by decide), isOn_ok (by omega), Option.bind_some, e289]
      by_cases c2 : bt P b = true
      · rw [if_pos c2, if_neg (by decide), if_pos (in_ok (by omega) (by decide)), cl (by omega), e293]
        by_cases c3 : bt (y0.1 293 a) b = true
        · rw [if_neg (h11t (by omega) c3)]
          exact skip (fun z => (un.mp z).2.2.2 ((hr a (by omega) b (by omega)).mp c3))
        · have hu := un.mpr ⟨c1, c2, hab, fun z => c3 ((hr a (by omega) b (by omega)).mpr z)⟩
          have l28 := ucn_28 (by omega) hu
          rw [if_pos (h11f (by omega) c3), hI.2.1, if_pos (in_ok l28 (by decide)), cl (by omega), m_let, ten_ab a (by omega) b (by omega), ys_ne (by decide), hI.2.1, nI_1, m_let]
          have t := glk_put hI hu
          rw [e1, e2] at t
          exact ih _ ⟨by omega, t⟩
      · rw [if_neg c2, if_pos rfl]
        exact skip (fun z => c2 (un.mp z).2.1)
    · rw [if_neg c1, if_pos rfl]
      exact skip (fun z => c1 (un.mp z).1)
end S1
