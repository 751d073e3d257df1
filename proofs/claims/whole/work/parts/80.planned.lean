/-! ===== grow: the class's plan (2) ===== -/
section R9
variable {A : Nat → Nat → Prop} {P : Int32}
/-- what the grower knows -/
def kg (x : mX) (A : Nat → Nat → Prop) (P : Int32) : Prop := x.1 256 2 = 1 ∧ ((nd A (bS P) ≤ 4 ∧ ∃ S, gS A P S 64 ∧ x.1 256 0 = nI (g_n S 64) ∧ ∀ c, c < 64 → S c → x.1 257 (g_n S c) = nI (10 * (c / 8) + c % 8)) ∨ (4 < nd A (bS P) ∧ x.1 256 0 = -2))
theorem L93_no {a : Nat} (ha : a < 8) (k : Int32) (x : mX) (h : x.1 256 0 = -2) (kk : Int32 → mX → Option mX) : f_X1_plan_L93 (nI a) mF k (nI (a + 1)) x kk = kk k x := by
  refine lp_up 8 (fun n b (s : Int32 × mX) => f_X1_plan_L93 (nI a) n s.1 b s.2 kk) (fun _ s => s = (k, x)) (fun o => o = kk k x) ?_ ?_ mF (a + 1) (k, x) (Nat.lt_of_lt_of_le (show 8 < mF by decide) (Nat.le_add_left _ _)) (by omega) rfl
  · intro n s hI
    subst hI
    show f_X1_plan_L93 (nI a) (n + 1) k (nI 8) x kk = kk k x
    rw [f_X1_plan_L93, if_pos (by decide)]
  · intro n b s hb hI ih
    subst hI
    show f_X1_plan_L93 (nI a) (n + 1) k (nI b) x kk = kk k x
    rw [f_X1_plan_L93, if_neg (k8f hb), nI_1, if_pos (show x.1 256 0 < 0 by rw [h]; decide)]
    exact ih (k, x) rfl
theorem L82_no (k : Int32) (x : mX) (h : x.1 256 0 = -2) : f_X1_plan_L82 mF k 0 x = some x := by
  have z := lp_up 8 (fun n b (s : Int32 × mX) => f_X1_plan_L82 n s.1 b s.2) (fun _ s => s = (k, x)) (fun o => o = some x) (by
    intro n s hI
    subst hI
    show f_X1_plan_L82 (n + 1) k (nI 8) x = some x
    rw [f_X1_plan_L82, if_pos (by decide)]) (by
    intro n b s hb hI ih
    subst hI
    show f_X1_plan_L82 (n + 1) k (nI b) x = some x
    rw [f_X1_plan_L82, if_neg (k8f hb), nI_1, L93_no hb k x h]
    exact ih (k, x) rfl) mF 0 (k, x) (by decide) (by decide) rfl
  exact z
theorem L82_ok (h8 : b8 P) (hN : g_N A (bS P)) (x0 : mX) (hnd : nd A (bS P) ≤ 4) (s : Int32 × mX) (hI : gI A P x0 0 s) : ∃ x', f_X1_plan_L82 mF s.1 0 s.2 = some x' ∧ ∃ k, gI A P x0 64 (k, x') := by
  have z := lp_ok 8 (fun n b (s : Int32 × mX) => f_X1_plan_L82 n s.1 b s.2) (fun a s => gI A P x0 (8 * a) s) (P := fun x' => ∃ k, gI A P x0 64 (k, x')) (by
    intro n s hI
    show ∃ x', f_X1_plan_L82 (n + 1) s.1 (nI 8) s.2 = some x' ∧ _
    rw [f_X1_plan_L82, if_pos (by decide)]
    exact ⟨s.2, rfl, s.1, hI⟩) (by
    intro n a s ha hI ih
    show ∃ x', f_X1_plan_L82 (n + 1) s.1 (nI a) s.2 = some x' ∧ _
    rw [f_X1_plan_L82, if_neg (k8f ha), nI_1]
    have far := gI_far (x0 := x0) (s := s) (j := 8 * a) (a + 1) (fun c h1 h2 hu => by
      have := hu.2.2.1
      omega) hI
    obtain ⟨s', g1, g2⟩ := L93_ok h8 hN x0 ha hnd (fun v14 x15 => f_X1_plan_L82 n v14 (nI (a + 1)) x15) s far
    rw [g2]
    exact ih s' (by rw [show 8 * (a + 1) = 8 * a + 8 by omega]; exact g1)) mF 0 s (by decide) (by decide) hI
  exact z
theorem L26_ok (x : mX) (kk : mX → Option mX) : ∃ x', xW (fun q => q = 259) x x' ∧ (∀ p, p < 8 → x'.1 259 p = x.1 223 p) ∧ f_X1_plan_L26 mF 0 x kk = kk x' := by
  have z := lp_up 8 (fun n b (s : mX) => f_X1_plan_L26 n b s kk) (fun j s => xW (fun q => q = 259) x s ∧ ∀ p, p < j → s.1 259 p = x.1 223 p) (fun o => ∃ x', xW (fun q => q = 259) x x' ∧ (∀ p, p < 8 → x'.1 259 p = x.1 223 p) ∧ o = kk x') (by
    intro n s hI
    show ∃ x', _ ∧ _ ∧ f_X1_plan_L26 (n + 1) (nI 8) s kk = kk x'
    rw [f_X1_plan_L26, if_pos (by decide)]
    exact ⟨s, hI.1, hI.2, rfl⟩) (by
    intro n j s hj hI ih
    show ∃ x', _ ∧ _ ∧ f_X1_plan_L26 (n + 1) (nI j) s kk = kk x'
    rw [f_X1_plan_L26, if_neg (k8f hj), if_pos (in_ok hj (by decide)), if_pos (in_ok hj (by decide)), cl (by omega), m_let, nI_1]
    refine ih _ ⟨xW_set hI.1 rfl, fun p hp => ?_⟩
    by_cases e : p = j
    · subst e
      rw [xs_eq, hI.1.1 223 (by decide)]
    · rw [xs_ec e]
      exact hI.2 p (by omega)) mF 0 x (by decide) (by decide) ⟨xW_rf _ x, fun p hp => by omega⟩
  exact z
theorem nd_72 : nd A (bS P) < 1000 := by
  have h1 := mxw_8 (A := A) (V := bS P) 8
  have h2 := sme_8 (A := A) (V := bS P) 8
  have h3 := g_n_bound (P := al A (bS P)) 8
  have h4 := g_n_bound (P := g_L A (bS P)) 8
  unfold nd
  split
  · omega
  · split <;> omega
def gY (q : Nat) : Prop := q = 256 ∨ q = 257 ∨ q = 258 ∨ q = 259 ∨ q = 260 ∨ q = 262
theorem plan_new (x : mX) (h8 : b8 P) (hN : g_N A (bS P)) (hP : x.1 222 0 = P) (hr : ∀ p, p < 8 → ∀ q, bt (x.1 223 p) q = true ↔ A p q) (h0 : x.1 256 2 = 0) : ∃ x', f_X1_plan x = some x' ∧ xW gY x x' ∧ kg x' A P := by
  rw [f_X1_plan, if_pos h0, m_let, m_let, xs_ne (by decide), hP]
  obtain ⟨x1, w1, r1, e1⟩ := L26_ok (m_xs (m_xs x 256 2 1) 258 0 P) (fun x4 => ((f_X3_divide 258 x4).bind fun q5 => ((f_X1_need q5).bind fun q6 => (m_jn (fun w8 => (m_let (m_xs q5 256 0 w8) fun x9 => (f_X1_plan_L82 mF q6 (0 : Int32) x9))) (fun j7 => if q6 ≤ (4 : Int32) then (j7 (0 : Int32)) else (j7 (-2 : Int32)))))))
  rw [e1]
  have hP1 : x1.1 258 0 = P := by rw [w1.1 258 (by decide), xs_eq]
  have hr1 : ∀ p, p < 8 → ∀ q, bt (x1.1 259 p) q = true ↔ A p q := fun p hp q => by
    rw [r1 p hp, xs_ne (by decide), xs_ne (by decide)]
    exact hr p hp q
  obtain ⟨x2, e2, w2, g2⟩ := ga_divide x1 h8 hN hP1 hr1
  have w02 : xW gY x x2 := xW_tr (xW_tr (xW_set (xW_set (xW_rf _ x) (Or.inl rfl)) (Or.inr (Or.inr (Or.inl rfl)))) (xW_mo w1 (fun q hq => Or.inr (Or.inr (Or.inr (Or.inl hq)))))) (xW_mo w2 (fun q hq => Or.inr (Or.inr (Or.inr (Or.inr hq)))))
  have k2 : x2.1 256 2 = 1 := by rw [w2.1 256 (by decide), w1.1 256 (by decide), xs_ne (by decide), xs_eq]
  rw [e2, Option.bind_some, ga_need h8 hN g2, Option.bind_some, m_jn]
  have lt := nd_72 (A := A) (P := P)
  have gset : ∀ v, ga (m_xs x2 256 0 v) A P := fun v => by
    refine ⟨?_, ?_, ?_⟩
    · rw [xs_ne (by decide)]; exact g2.1
    · rw [xs_ne (by decide)]; exact g2.2.1
    · unfold n_div
      rw [xs_ne (by decide), xs_ne (by decide)]
      exact g2.2.2
  by_cases c : nd A (bS P) ≤ 4
  · rw [if_pos (show nI (nd A (bS P)) ≤ 4 from nI_le (b := 4) c (by decide))]
    dsimp only
    rw [m_let]
    obtain ⟨x', e', k, S, s1, s2, s3, s4, s5, s6, s7⟩ := L82_ok h8 hN (m_xs x2 256 0 0) c (nI (nd A (bS P)), m_xs x2 256 0 0) ⟨fun _ => False, ⟨fun _ h => h.elim, fun c hc => by omega⟩, by
      rw [show pn A (fun _ => False) 0 = A from pl_0]; exact gset 0, by
      rw [show pn A (fun _ => False) 0 = A from pl_0], by
      show (m_xs x2 256 0 0).1 256 0 = nI 0
      rw [xs_eq, nI_0], fun c hc => by omega, xW_rf _ _, rfl⟩
    rw [e']
    refine ⟨x', rfl, xW_tr (xW_set w02 (Or.inl rfl)) (xW_mo s6 (fun q hq => ?_)), ?_, Or.inl ⟨c, S, s1, s4, s5⟩⟩
    · rcases hq with h | h | h | h | h
      · exact Or.inl h
      · exact Or.inr (Or.inl h)
      · exact Or.inr (Or.inr (Or.inr (Or.inl h)))
      · exact Or.inr (Or.inr (Or.inr (Or.inr (Or.inl h))))
      · exact Or.inr (Or.inr (Or.inr (Or.inr (Or.inr h))))
    · show x'.1 256 2 = 1
      rw [show x'.1 256 2 = (m_xs x2 256 0 0).1 256 2 from s7, xs_ec (by decide)]
      exact k2
  · rw [if_neg (show ¬ nI (nd A (bS P)) ≤ 4 from nI_ge (a := 4) (by omega) (by omega))]
    dsimp only
    rw [m_let]
    rw [L82_no _ _ (by rw [xs_eq])]
    exact ⟨_, rfl, xW_set w02 (Or.inl rfl), by rw [xs_ec (by decide)]; exact k2, Or.inr ⟨by omega, by rw [xs_eq]⟩⟩
theorem plan_old (x : mX) (h : x.1 256 2 = 1) : f_X1_plan x = some x := by rw [f_X1_plan, if_neg (by rw [h]; decide)]
end R9
