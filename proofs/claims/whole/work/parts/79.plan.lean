/-! ===== grow: the class's plan ===== -/
section R8
variable {A A' : Nat → Nat → Prop} {P : Int32} {a b : Nat}
theorem ten_ab : ∀ a, a < 8 → ∀ b, b < 8 → (10 : Int32) * nI a + nI b = nI (10 * a + b) := by decide +kernel
theorem dec_k : ∀ k, k < 9 → 0 < k → nI k + (-1 : Int32) = nI (k - 1) := by decide +kernel
theorem isNew_ok (x : mX) (h : ga x A' P) (ha : a < 8) (hb : b < 8) : f_X1_isNew (nI a) (nI b) x = some (@ite Int32 (bS P a ∧ bS P b ∧ ¬ A' a b) (Classical.propDecidable _) 1 0) := by
  rw [f_X1_isNew, h.1]
  by_cases c1 : bt P a = true
  · rw [if_neg (h10t (by omega) c1)]
    by_cases c2 : bt P b = true
    · rw [if_neg (h10t (by omega) c2), if_pos (in_ok ha (by decide)), cl (by omega)]
      by_cases c3 : bt (x.1 259 a) b = true
      · rw [if_neg (h10t (by omega) c3), if_neg (fun z => z.2.2 ((h.2.1 a ha b).mp c3))]
      · rw [if_pos (h10f (by omega) c3), if_pos ⟨c1, c2, fun z => c3 ((h.2.1 a ha b).mpr z)⟩]
    · rw [if_pos (h10f (by omega) c2), if_neg (fun z => c2 z.2.1)]
  · rw [if_pos (h10f (by omega) c1), if_neg (fun z => c1 z.1)]
theorem new_iff {S : Nat → Prop} (hS : ∀ c, S c → ucn A P c ∧ c < 8 * a + b) (hb : b < 8) (hab : a < b) : (bS P a ∧ bS P b ∧ ¬ pn A S (8 * a + b) a b) ↔ ucn A P (8 * a + b) := by
  have e1 : (8 * a + b) / 8 = a := by omega
  have e2 : (8 * a + b) % 8 = b := by omega
  unfold ucn
  rw [e1, e2]
  constructor
  · rintro ⟨h1, h2, h3⟩
    exact ⟨h1, h2, hab, fun z => h3 (Or.inl z)⟩
  · rintro ⟨h1, h2, _, h4⟩
    refine ⟨h1, h2, fun z => ?_⟩
    rcases z with z | ⟨c, c1, c2, ⟨z1, z2⟩ | ⟨z1, z2⟩⟩
    · exact h4 z
    · dsimp only at z1 z2
      omega
    · dsimp only at z1 z2
      have := (hS c c2).1.2.2.1
      omega
theorem L93_ok (h8 : b8 P) (hN : g_N A (bS P)) (x0 : mX) (ha : a < 8) (hnd : nd A (bS P) ≤ 4) (kk : Int32 → mX → Option mX) (s : Int32 × mX) (hI : gI A P x0 (8 * a + (a + 1)) s) : ∃ s', gI A P x0 (8 * a + 8) s' ∧ f_X1_plan_L93 (nI a) mF s.1 (nI (a + 1)) s.2 kk = kk s'.1 s'.2 := by
  refine lp_up 8 (fun n b (s : Int32 × mX) => f_X1_plan_L93 (nI a) n s.1 b s.2 kk) (fun b s => a < b ∧ gI A P x0 (8 * a + b) s) (fun o => ∃ s', gI A P x0 (8 * a + 8) s' ∧ o = kk s'.1 s'.2) ?_ ?_ mF (a + 1) s (Nat.lt_of_lt_of_le (show 8 < mF by decide) (Nat.le_add_left _ _)) (by omega) ⟨by omega, hI⟩
  · intro n s hI
    show ∃ s', gI A P x0 (8 * a + 8) s' ∧ f_X1_plan_L93 (nI a) (n + 1) s.1 (nI 8) s.2 kk = kk s'.1 s'.2
    rw [f_X1_plan_L93, if_pos (by decide)]
    exact ⟨s, hI.2, rfl⟩
  · rintro n b ⟨k, x⟩ hb ⟨hab, hI⟩ ih
    show ∃ s', gI A P x0 (8 * a + 8) s' ∧ f_X1_plan_L93 (nI a) (n + 1) k (nI b) x kk = kk s'.1 s'.2
    obtain ⟨S, s1, s2, s3, s4, s5, s6, s7⟩ := id hI
    dsimp only at s2 s3 s4 s5 s6 s7
    have e1 : (8 * a + b) / 8 = a := by omega
    have e2 : (8 * a + b) % 8 = b := by omega
    have gn := gS_n hN s1
    have nx : ∀ k' x', gI A P x0 (8 * a + b + 1) (k', x') → ∃ s', gI A P x0 (8 * a + 8) s' ∧ f_X1_plan_L93 (nI a) n k' (nI (b + 1)) x' kk = kk s'.1 s'.2 := fun k' x' h => ih (k', x') ⟨by omega, h⟩
    have skip : (ucn A P (8 * a + b) → ¬ nd (aj (pn A S (8 * a + b)) ((8 * a + b) / 8) ((8 * a + b) % 8)) (bS P) < nd (pn A S (8 * a + b)) (bS P)) → ∃ s', gI A P x0 (8 * a + 8) s' ∧ f_X1_plan_L93 (nI a) n k (nI (b + 1)) x kk = kk s'.1 s'.2 := fun h => nx k x (gI_skip s1 s2 s3 s4 s5 s6 s7 (xW_rf _ _) h)
    rw [f_X1_plan_L93, if_neg (k8f hb), nI_1, if_neg (show ¬ x.1 256 0 < 0 by rw [s4]; exact nI_pos (by omega))]
    by_cases c4 : 4 ≤ g_n S (8 * a + b)
    · rw [if_pos (show (4 : Int32) ≤ x.1 256 0 by rw [s4]; exact nI_le (a := 4) c4 (by omega))]
      exact skip (fun _ => by omega)
    rw [if_neg (show ¬ (4 : Int32) ≤ x.1 256 0 by rw [s4]; exact nI_ge (b := 4) (by omega) (by decide))]
    by_cases c0 : nd (pn A S (8 * a + b)) (bS P) = 0
    · rw [if_pos (show k ≤ 0 by rw [s3, c0]; decide)]
      exact skip (fun _ => by omega)
    rw [if_neg (show ¬ k ≤ 0 by rw [s3]; exact nI_nle (by omega) (by omega)), isNew_ok x s2 ha hb, Option.bind_some]
    by_cases cu : ucn A P (8 * a + b)
    · have nw := (new_iff s1.1 hb hab).mpr cu
      rw [if_pos nw, if_neg (by decide)]
      obtain ⟨x', h1, h2, h3⟩ := helps_ok x h8 (gS_N hN s1) s2 nw.1 nw.2.1 (Nat.ne_of_lt hab) nw.2.2 (k := nd (pn A S (8 * a + b)) (bS P)) (by omega)
      rw [s3, h1, Option.bind_some]
      dsimp only
      by_cases cl' : nd (aj (pn A S (8 * a + b)) a b) (bS P) < nd (pn A S (8 * a + b)) (bS P)
      · rw [if_pos cl'] at h3
        have e256 : x'.1 256 0 = nI (g_n S (8 * a + b)) := by rw [h2.1 256 (by omega)]; exact s4
        rw [if_pos cl', if_neg (by decide), e256, if_pos (in_ok (by omega) (by decide)), cl (by omega), m_let, ten_ab a ha b hb, xs_ne (by decide), e256, nI_1, m_let, dec_k _ (by omega) (by omega)]
        have t := gI_take (x' := x') hN s1 cu (by rw [e1, e2]; exact cl') (by rw [e1, e2]; exact h3) s4 s5 s6 s7 h2
        rw [e1, e2] at t
        exact nx _ _ t
      · rw [if_neg cl'] at h3
        rw [if_neg cl', if_pos rfl, ← s3]
        exact nx k x' (gI_skip s1 h3 s3 s4 s5 s6 s7 h2 (fun _ => by rw [e1, e2]; exact cl'))
    · rw [if_neg (fun z => cu ((new_iff s1.1 hb hab).mp z)), if_pos rfl]
      exact skip (fun z => absurd z cu)
end R8
