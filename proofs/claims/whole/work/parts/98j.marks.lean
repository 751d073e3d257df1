/-! ===== states kept (2): keep and marks ===== -/
section SR
variable {np rt : Nat} {x x' : mX} {y y' : mY} {σ : Nat → Int32}
set_option maxRecDepth 20000 in
theorem past_0 : ∀ i, i < 40 → mRR 0 20 i = some (21 + 5 * i) := by decide +kernel
set_option maxRecDepth 20000 in
theorem slots_0 : ∀ i, i < 3 → mRR 0 221 i = some (264 + 5 * i) := by decide +kernel
theorem past_j (j : Nat) {i : Nat} (hi : i < 40) : mRR j 20 i = some (21 + 5 * i) := (show mRR j 20 i = mRR 0 20 i from rfl).trans (past_0 i hi)
theorem slots_j (j : Nat) {i : Nat} (hi : i < 3) : mRR j 221 i = some (264 + 5 * i) := (show mRR j 221 i = mRR 0 221 i from rfl).trans (slots_0 i hi)
theorem mod40 : ∀ n, n < 81 → nI n - nI n / (40 : Int32) * (40 : Int32) = nI (n % 40) := by decide +kernel
theorem keep_ok (x : mX) {t k : Nat} (hW : sW σ np) (hR : sR x.1 14 σ np rt) (ht : t < 40) (hk : k ≤ 40) (h1 : x.1 19 1 = nI t) (h0 : x.1 19 0 = nI k) : ∃ x1, f_X2_keep x = some x1 ∧ xF (fun q c => q = 19 ∨ (21 + 5 * t ≤ q ∧ q ≤ 21 + 5 * t + 4)) x x1 ∧ sR x1.1 (21 + 5 * t) σ np rt ∧ x1.1 19 1 = nI ((t + 1) % 40) ∧ x1.1 19 0 = nI (if k = 40 then 40 else k + 1) := by
  unfold f_X2_keep
  obtain ⟨x1, e1, w1, r1⟩ := copy_ok (d0 := 21 + 5 * t) (s0 := 14) (by omega) x hW hR
  rw [h1, if_pos (in_ok ht (by decide)), cl (by omega), past_j x.2.2 ht, Option.bind_some, e1, Option.bind_some, m_jn]
  dsimp only
  have g1 : x1.1 19 1 = nI t := by rw [w1.1 19 1 (by unfold cpW; omega)]; exact h1
  have g0 : x1.1 19 0 = nI k := by rw [w1.1 19 0 (by unfold cpW; omega)]; exact h0
  rw [g1, nI_1]
  have fin : ∀ v, v = nI ((t + 1) % 40) → ∃ x2, m_let (m_xs x1 19 1 v) (fun x5 => m_let (m_xs x5 19 0 (if (40 : Int32) < ((x5.1 19 0) + (1 : Int32)) then (40 : Int32) else ((x5.1 19 0) + (1 : Int32)))) fun x6 => some x6) = some x2 ∧ xF (fun q c => q = 19 ∨ (21 + 5 * t ≤ q ∧ q ≤ 21 + 5 * t + 4)) x x2 ∧ sR x2.1 (21 + 5 * t) σ np rt ∧ x2.1 19 1 = nI ((t + 1) % 40) ∧ x2.1 19 0 = nI (if k = 40 then 40 else k + 1) := fun v hv => by
    rw [m_let, m_let]
    refine ⟨_, rfl, xF_set (xF_set (xF_mo w1 (fun q c z => Or.inr z)) (Or.inl rfl)) (Or.inl rfl), sR_cg (x := x1) (fun q q1 q2 => by rw [xs_ne (by omega), xs_ne (by omega)]) r1, by rw [xs_ec (by decide), xs_eq, hv], ?_⟩
    rw [xs_eq, xs_ec (by decide), g0, nI_1]
    by_cases c : k = 40
    · rw [if_pos c, c, if_pos (by decide)]
      rfl
    · rw [if_neg c, if_neg (show ¬ (40 : Int32) < nI (k + 1) from nI_nlt (a := 40) (by omega) (by decide))]
  by_cases c : t + 1 = 40
  · rw [if_pos (show (40 : Int32) ≤ nI (t + 1) by rw [c]; decide)]
    exact fin 0 (by rw [c]; decide)
  · rw [if_neg (show ¬ (40 : Int32) ≤ nI (t + 1) from nI_ge (b := 40) (by omega) (by decide))]
    exact fin _ (by rw [Nat.mod_eq_of_lt (by omega)])
theorem marks_L {m : Nat} (hm : m < 40) (y : mY) : ∃ y1, f_X11_marks_L50 (nI (72 * m)) mF 0 y = some y1 ∧ yF (fun q c => (q = 290 ∧ 72 * m ≤ c ∧ c < 72 * m + 72) ∨ (q = 279 ∧ c = 27)) y y1 ∧ (∀ c, c < 72 → y1.1 290 (72 * m + c) = y.1 289 c) ∧ y1.1 279 27 = y.1 279 27 + 1 := by
  refine lp_ok 72 (fun n b (s : mY) => f_X11_marks_L50 (nI (72 * m)) n b s) (fun j s => yF (fun q c => (q = 290 ∧ 72 * m ≤ c ∧ c < 72 * m + 72)) y s ∧ ∀ c, c < j → s.1 290 (72 * m + c) = y.1 289 c) ?_ ?_ mF 0 y (by decide) (by decide) ⟨yF_rf _ _, fun c hc => by omega⟩
  · rintro n s ⟨h1, h2⟩
    show ∃ y1, f_X11_marks_L50 (nI (72 * m)) (n + 1) (nI 72) s = some y1 ∧ _
    rw [f_X11_marks_L50, if_pos (by decide), m_let]
    refine ⟨_, rfl, yF_set (yF_mo h1 (fun q c z => Or.inl z)) (Or.inr ⟨rfl, rfl⟩), fun c hc => by rw [ys_ne (by decide)]; exact h2 c hc, ?_⟩
    rw [ys_eq, h1.1 279 27 (by omega)]
  · rintro n j s hj ⟨h1, h2⟩ ih
    show ∃ y1, f_X11_marks_L50 (nI (72 * m)) (n + 1) (nI j) s = some y1 ∧ _
    rw [f_X11_marks_L50, if_neg (show ¬ (72 : Int32) ≤ nI j from nI_ge (b := 72) hj (by decide)), if_pos (in_ok hj (by decide)), nI_add, if_pos (in_ok (by omega) (by decide)), cl (by omega), cl (by omega), m_let, nI_1]
    refine ih _ ⟨yF_set h1 ⟨rfl, by omega, by omega⟩, fun c hc => ?_⟩
    by_cases e : c = j
    · subst e
      rw [ys_eq, h1.1 289 c (by omega)]
    · rw [ys_ec (by omega)]
      exact h2 c (by omega)
def mkW (q c : Nat) : Prop := q = 290 ∨ (q = 279 ∧ (c = 26 ∨ c = 27))
theorem marks_ok (y : mY) {k e : Nat} (hk : k ≤ 40) (he : e < 40) (h27 : y.1 279 27 = nI k) (h26 : y.1 279 26 = nI e) : ∃ y1, f_X11_marks y = some y1 ∧ yF mkW y y1 ∧ y1.1 279 27 = nI (if k = 40 then 40 else k + 1) ∧ y1.1 279 26 = nI (if k = 40 then (e + 1) % 40 else e) ∧ (∀ c, c < 72 → y1.1 290 (72 * ((e + k) % 40) + c) = y.1 289 c) ∧ ∀ i c, i < 40 → i ≠ (e + k) % 40 → c < 72 → y1.1 290 (72 * i + c) = y.1 290 (72 * i + c) := by
  unfold f_X11_marks
  rw [m_jn]
  dsimp only
  rw [h27]
  have m40 := Nat.mod_lt (e + k) (show 40 > 0 by decide)
  by_cases c : k = 40
  · subst c
    have b1 : (m_ys y 279 26 (nI ((e + 1) % 40))).1 279 27 = nI 40 := (ys_ec (by decide)).trans h27
    have b2 : (m_ys (m_ys y 279 26 (nI ((e + 1) % 40))) 279 27 (nI 39)).1 279 26 = nI ((e + 1) % 40) := (ys_ec (by decide)).trans (ys_eq _ _ _ _)
    rw [if_pos (show nI 40 = (40 : Int32) from rfl), m_let, m_let, h26, nI_1, mod40 _ (by omega), b1, show nI 40 - 1 = nI 39 by decide, b2, ys_eq, nI_add, mod40 _ (by omega), show (72 : Int32) * nI (((e + 1) % 40 + 39) % 40) = nI (72 * (((e + 1) % 40 + 39) % 40)) from pk_mul 72 _]
    have em : ((e + 1) % 40 + 39) % 40 = (e + 40) % 40 := by omega
    rw [em]
    obtain ⟨y1, e1, w1, r1, q1⟩ := marks_L m40 (m_ys (m_ys y 279 26 (nI ((e + 1) % 40))) 279 27 (nI 39))
    rw [e1]
    refine ⟨y1, rfl, yF_tr (yF_set (yF_set (yF_rf _ _) (Or.inr ⟨rfl, Or.inl rfl⟩)) (Or.inr ⟨rfl, Or.inr rfl⟩)) (yF_mo w1 (fun q c z => z.elim (fun z => Or.inl z.1) (fun z => Or.inr ⟨z.1, Or.inr z.2⟩))), ?_, ?_, fun c hc => ?_, fun i c hi hne hc => ?_⟩
    · rw [q1, ys_eq, if_pos rfl]
      rfl
    · rw [w1.1 279 26 (by omega), ys_ec (by decide), ys_eq, if_pos rfl]
    · rw [r1 c hc, ys_ne (by decide), ys_ne (by decide)]
    · rw [w1.1 290 _ (by omega), ys_ne (by decide), ys_ne (by decide)]
  · rw [if_neg (show ¬ nI k = (40 : Int32) from fun z => c ((nI_eq (b := 40) (by omega) (by decide)).mp z)), h26, nI_add, mod40 _ (by omega), show (72 : Int32) * nI ((e + k) % 40) = nI (72 * ((e + k) % 40)) from pk_mul 72 _]
    obtain ⟨y1, e1, w1, r1, q1⟩ := marks_L m40 y
    rw [e1]
    refine ⟨y1, rfl, yF_mo w1 (fun q c z => z.elim (fun z => Or.inl z.1) (fun z => Or.inr ⟨z.1, Or.inr z.2⟩)), ?_, ?_, r1, fun i c hi hne hc => ?_⟩
    · rw [q1, h27, nI_1, if_neg c]
    · rw [w1.1 279 26 (by omega), if_neg c]
      exact h26
    · rw [w1.1 290 _ (by omega)]
end SR
