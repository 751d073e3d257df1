/-! ===== the text: the reference's faults of meaning, steps ===== -/
section TR
variable {B : Nat → Nat} {b N k t t' c : Nat} {y y' y0 : mY} {R : Nat × Nat}
theorem tkS_s (h : tkS B b k < b) : tkS B b k < tkS B b (k + 1) := by
  have e := tkE_b (B := B) h
  have p := tkP_s h
  have u := (enP_ok (B := B) (b := b) (P := isBl) _ (tkP B b (k + 1)) rfl).1
  show tkS B b k < enP B b isBl (tkP B b (k + 1))
  omega
theorem tkS_lt {i : Nat} (hz : ∀ j, j < N → kdK B b j ≠ 0) : ∀ j, i < j → j ≤ N → tkS B b i < tkS B b j
  | 0, h, _ => absurd h (Nat.not_lt_zero _)
  | j + 1, h, hj => by
    have hS : tkS B b j < b := Classical.byContradiction fun z => hz j (by omega) ((kdK_0 j).mpr z)
    have s := tkS_s hS
    by_cases e : i = j
    · rw [e]; exact s
    · have ih := tkS_lt (i := i) hz j (by omega) (by omega)
      omega
/-- what is known before the meaning is read -/
def ymG (B : Nat → Nat) (b N : Nat) (y : mY) : Prop := txK (kdK B b) N ∧ (∀ j, j < N → kdK B b j ≠ 0) ∧ b ≤ 2000 ∧ (∀ j, j < N + 1 → yTo B b y j) ∧ y.1 279 10 = nI (N + 1) ∧ y.1 279 12 = 0 ∧ y.1 279 19 = nI (iyY B b N) ∧ lnN B b N y
def mnW (q c : Nat) : Prop := (q = 279 ∧ (c = 14 ∨ c = 15 ∨ c = 21)) ∨ q = 288
theorem ymG_F (h : ymG B b N y0) (f : yF mnW y0 y) : ymG B b N y := by
  obtain ⟨h1, h2, h3, h4, h5, h6, h7, h8⟩ := h
  have r : ∀ q, q ≠ 279 → q ≠ 288 → y.1 q = y0.1 q := fun q q1 q2 => yF_row f (fun c => by unfold mnW; omega)
  refine ⟨h1, h2, h3, fun j hj => ?_, by rw [f.1 279 10 (by unfold mnW; omega)]; exact h5, by rw [f.1 279 12 (by unfold mnW; omega)]; exact h6, by rw [f.1 279 19 (by unfold mnW; omega)]; exact h7, lnN_c h8 (by rw [f.2])⟩
  unfold yTo
  rw [r 282 (by decide) (by decide), r 283 (by decide) (by decide), r 284 (by decide) (by decide), f.2]
  exact h4 j hj
/-- the fault so far -/
def stW (B : Nat → Nat) (b : Nat) (R : Nat × Nat) (y : mY) : Prop := y.1 279 14 = nI R.1 ∧ R.1 < 6 ∧ (¬ R.1 = 0 → y.1 279 15 = nI (tkS B b R.2))
theorem stW_c (h : stW B b R y0) (h14 : y.1 279 14 = y0.1 279 14) (h15 : y.1 279 15 = y0.1 279 15) : stW B b R y := by
  unfold stW
  rw [h14, h15]
  exact h
theorem stW_0 {R' : Nat × Nat} (h : stW B b R y) (h0 : R.1 = 0) (h1 : R'.1 = 0) : stW B b R' y := ⟨by rw [h1, ← h0]; exact h.1, by omega, fun z => absurd h1 z⟩
def wrW (q c : Nat) : Prop := q = 279 ∧ (c = 14 ∨ c = 15)
/-- a fault told -/
def rpW (R : Nat × Nat) (c t : Nat) : Nat × Nat := if R.1 = 0 then (c, t) else R
theorem wrong_s (hG : ymG B b N y) (h : stW B b R y) (ht : t < N) (hR : ¬ R.1 = 0 → (R.2 < t ∨ R = (c, t))) (hc : ¬ c = 0) (h6 : c < 6) : ∃ y', f_X11_wrong (nI c) (nI t) y = some y' ∧ yF wrW y y' ∧ stW B b (rpW R c t) y' := by
  obtain ⟨h1, h2, h3, h4, h5, h12, h7, h8⟩ := hG
  have n4 := h1.1
  have tb := tkS_b (B := B) (b := b) t
  unfold f_X11_wrong
  rw [if_pos (in_ok (by omega) (by decide)), h12, if_neg (by decide), h.1, cl (by omega), (h4 t (by omega)).2.1]
  unfold rpW
  by_cases c0 : R.1 = 0
  · rw [if_pos (by rw [c0]; rfl), if_pos c0, m_let, m_let]
    refine ⟨_, rfl, yF_set (yF_set (yF_rf _ _) ⟨rfl, Or.inl rfl⟩) ⟨rfl, Or.inr rfl⟩, ?_, h6, fun _ => ys_eq _ _ _ _⟩
    rw [ys_ec (by decide), ys_eq]
  · have rb := tkS_b (B := B) (b := b) R.2
    rw [if_neg (nI_n0 c0 h.2.1), if_neg c0, h.2.2 c0]
    rcases hR c0 with z | z
    · have lt := tkS_lt h2 t z (by omega)
      rw [if_pos (nI_lt lt (by omega))]
      exact ⟨y, rfl, yF_rf _ _, h⟩
    · have e1 : R.1 = c := by rw [z]
      have e2 : R.2 = t := by rw [z]
      rw [e1, e2, if_neg (nI_nlt (Nat.le_refl _) (by omega)), if_pos rfl, if_neg (nI_nlt (Nat.le_refl _) (by omega))]
      exact ⟨y, rfl, yF_rf _ _, h⟩
theorem rp_b {t' : Nat} (h : ¬ R.1 = 0 → R.2 < t') (ht : t < t') : ¬ (rpW R c t).1 = 0 → (rpW R c t).2 < t' := by
  unfold rpW
  by_cases c0 : R.1 = 0
  · rw [if_pos c0]
    exact fun _ => ht
  · rw [if_neg c0]
    exact h
theorem wr_mn {q c : Nat} (h : wrW q c) : mnW q c := Or.inl ⟨h.1, by have := h.2; omega⟩
/-! names -/
def iyT (B : Nat → Nat) (b N t : Nat) : Nat := iyY B b (fpT B b N t)
def cdY (B : Nat → Nat) (b N t : Nat) : Int32 := if fpT B b N t < N then nI (iyT B b N t) else -1
theorem cdY_y (c : fpT B b N t < N) : cdY B b N t = nI (iyT B b N t) := if_pos c
theorem cdY_n (c : ¬ fpT B b N t < N) : cdY B b N t = -1 := if_neg c
theorem fp_20 (c : fpT B b N t < N) : kdK B b (fpT B b N t) = 20 ∧ Wd B b (fpT B b N t + 1) = Wd B b t := (fsT_ok (K := kdK B b) (W := Wd B b) (w := Wd B b t) N).2.1 c
theorem iy_np (c : fpT B b N t < N) : iyT B b N t < cNk (kdK B b) 20 N := cNk_lt c (fp_20 c).1
theorem iy_8 (h : txK (kdK B b) N) (c : fpT B b N t < N) : iyT B b N t < 8 := by
  have a := iy_np c
  have e := h.2.2.2.2.1
  omega
theorem iy_inj (c : fpT B b N t < N) (c' : fpT B b N t' < N) : iyT B b N t = iyT B b N t' ↔ Wd B b t = Wd B b t' := by
  constructor
  · intro h
    have e : fpT B b N t = fpT B b N t' := cNk_inj (fp_20 c).1 (fp_20 c').1 h
    rw [← (fp_20 c).2, ← (fp_20 c').2, e]
  · intro h
    unfold iyT
    rw [fp_W h]
theorem cdY_eq (h : txK (kdK B b) N) (c : fpT B b N t < N) : cdY B b N t' = nI (iyT B b N t) ↔ Wd B b t' = Wd B b t := by
  have a := iy_8 h c
  by_cases c' : fpT B b N t' < N
  · have a' := iy_8 h c'
    rw [cdY_y c', nI_eq (by omega) (by omega), iy_inj c' c]
  · rw [cdY_n c']
    exact ⟨fun z => absurd z.symm (nI_m1 (by omega)), fun z => absurd (by rw [fp_W z]; exact c) c'⟩
theorem named_t (hG : ymG B b N y) (ht : t < N) (h1 : kdK B b t = 1) : f_X11_named (nI t) y = some (cdY B b N t) := by
  obtain ⟨g1, g2, g3, g4, g5, g6, g7, g8⟩ := hG
  have n4 := g1.1
  exact named_y g7 g1.2.2.2.2.1 g8 (fun j hj h20 => (g1.2.1 j hj (Or.inl h20)).1) h1 (by omega) ((g4 t (by omega)).2.2.1 h1)
theorem known_s (hG : ymG B b N y) (h : stW B b R y) (ht : t < N) (h1 : kdK B b t = 1) (hR : ¬ R.1 = 0 → R.2 < t) : ∃ y', f_X11_known (nI t) y = some (cdY B b N t, y') ∧ yF wrW y y' ∧ stW B b (if fpT B b N t < N then R else rpW R 4 t) y' := by
  unfold f_X11_known
  rw [named_t hG ht h1, Option.bind_some]
  by_cases c : fpT B b N t < N
  · have a := iy_8 hG.1 c
    rw [cdY_y c, if_pos (nI_pos' (by omega)), if_pos c]
    exact ⟨y, rfl, yF_rf _ _, h⟩
  · obtain ⟨y', e1, e2, e3⟩ := wrong_s (c := 4) hG h ht (fun z => Or.inl (hR z)) (by decide) (by decide)
    rw [cdY_n c, if_neg (by decide), show f_X11_wrong (4 : Int32) (nI t) y = some y' from e1, Option.bind_some, if_neg c]
    exact ⟨y', rfl, e2, e3⟩
theorem linked_y (hG : ymG B b N y) {ah : Nat} (ha : ah ≤ N + 1) (k1 : fpT B b N (k + 1) < N) (k2 : fpT B b N (k + 2) < N) : f_X11_isLinked (nI (iyT B b N (k + 1))) (nI (iyT B b N (k + 2))) (nI ah) y = some (if lkB (kdK B b) (Wd B b) k ah = true then 1 else 0) := by
  obtain ⟨g1, g2, g3, g4, g5, g6, g7, g8⟩ := id hG
  have n4 := g1.1
  unfold f_X11_isLinked
  refine lp_up ah (fun n a (_ : Unit) => f_X11_isLinked_L3 (nI (iyT B b N (k + 1))) (nI (iyT B b N (k + 2))) (nI ah) n a y) (fun j _ => lkB (kdK B b) (Wd B b) k j = false) (fun o => o = some (if lkB (kdK B b) (Wd B b) k ah = true then 1 else 0)) ?_ ?_ mF 0 () (Nat.lt_of_le_of_lt (show ah ≤ 401 by omega) (by decide)) (Nat.zero_le _) rfl
  · intro n _ hI
    show f_X11_isLinked_L3 _ _ _ (n + 1) (nI ah) y = _
    rw [f_X11_isLinked_L3, if_pos (nI_le (Nat.le_refl _) (by omega)), hI, if_neg (by decide)]
  · intro n j _ hj hI ih
    show f_X11_isLinked_L3 _ _ _ (n + 1) (nI j) y = _
    rw [f_X11_isLinked_L3, if_neg (nI_ge hj (by omega)), if_pos (in_ok (by omega) (by decide)), cl (by omega), (g4 j (by omega)).1, nI_1]
    have kb := kdK_b (B := B) (b := b) j
    have no : ¬ (kdK B b j = 21 ∧ prB (Wd B b) j k = true) → f_X11_isLinked_L3 (nI (iyT B b N (k + 1))) (nI (iyT B b N (k + 2))) (nI ah) n (nI (j + 1)) y = some (if lkB (kdK B b) (Wd B b) k ah = true then 1 else 0) := fun z => by
      refine ih () ?_
      show (lkB (kdK B b) (Wd B b) k j || decide (kdK B b j = 21 ∧ prB (Wd B b) j k = true)) = false
      rw [hI, decide_eq_false z]
      rfl
    by_cases c21 : kdK B b j = 21
    · have jN : j < N := Classical.byContradiction fun z => by
        rw [show j = N by omega, g1.2.2.2.2.2.2] at c21
        cases c21
      have t1 := g1.2.2.1 j jN c21
      have yes : prB (Wd B b) j k = true → (some (1 : Int32)) = some (if lkB (kdK B b) (Wd B b) k ah = true then 1 else 0) := fun z => by
        rw [if_pos ((lkB_iff ah).mpr ⟨j, hj, c21, z⟩)]
      rw [if_pos (show nI (kdK B b j) = (21 : Int32) by rw [c21]; rfl), named_t hG (by omega) t1.1, Option.bind_some, show nI j + (2 : Int32) = nI (j + 2) from nI_add j 2, named_t hG (by omega) t1.2.1, Option.bind_some, m_jn]
      dsimp only
      have pi : prB (Wd B b) j k = true ↔ (Wd B b (j + 1) = Wd B b (k + 1) ∧ Wd B b (j + 2) = Wd B b (k + 2)) ∨ (Wd B b (j + 1) = Wd B b (k + 2) ∧ Wd B b (j + 2) = Wd B b (k + 1)) := by
        unfold prB
        rw [decide_eq_true_eq]
      have q1 := cdY_eq (t' := j + 1) g1 k1
      have q2 := cdY_eq (t' := j + 2) g1 k2
      have q3 := cdY_eq (t' := j + 1) g1 k2
      have q4 := cdY_eq (t' := j + 2) g1 k1
      have second : ¬ (Wd B b (j + 1) = Wd B b (k + 1) ∧ Wd B b (j + 2) = Wd B b (k + 2)) → (if cdY B b N (j + 1) = nI (iyT B b N (k + 2)) then (if cdY B b N (j + 2) = nI (iyT B b N (k + 1)) then (some (1 : Int32)) else (f_X11_isLinked_L3 (nI (iyT B b N (k + 1))) (nI (iyT B b N (k + 2))) (nI ah) n (nI (j + 1)) y)) else (f_X11_isLinked_L3 (nI (iyT B b N (k + 1))) (nI (iyT B b N (k + 2))) (nI ah) n (nI (j + 1)) y)) = some (if lkB (kdK B b) (Wd B b) k ah = true then 1 else 0) := fun nf => by
        by_cases d1 : Wd B b (j + 1) = Wd B b (k + 2)
        · rw [if_pos (q3.mpr d1)]
          by_cases d2 : Wd B b (j + 2) = Wd B b (k + 1)
          · rw [if_pos (q4.mpr d2)]
            exact yes (pi.mpr (Or.inr ⟨d1, d2⟩))
          · rw [if_neg (fun z => d2 (q4.mp z))]
            exact no (fun z => (pi.mp z.2).elim nf (fun u => d2 u.2))
        · rw [if_neg (fun z => d1 (q3.mp z))]
          exact no (fun z => (pi.mp z.2).elim nf (fun u => d1 u.1))
      by_cases d1 : Wd B b (j + 1) = Wd B b (k + 1)
      · rw [if_pos (q1.mpr d1)]
        by_cases d2 : Wd B b (j + 2) = Wd B b (k + 2)
        · rw [if_pos (q2.mpr d2)]
          exact yes (pi.mpr (Or.inl ⟨d1, d2⟩))
        · rw [if_neg (fun z => d2 (q2.mp z))]
          exact second (fun z => d2 z.2)
      · rw [if_neg (fun z => d1 (q1.mp z))]
        exact second (fun z => d1 z.1)
    · rw [if_neg (show ¬ nI (kdK B b j) = (21 : Int32) from fun z => c21 ((nI_eq (b := 21) (by omega) (by decide)).mp z))]
      exact no (fun z => c21 z.1)
/-- a name told before -/
theorem twice_y (hG : ymG B b N y) (h : stW B b R y) (hk : k < N) (c20 : kdK B b k = 20) (hR : ¬ R.1 = 0 → R.2 < k) (kk : mY → Option mY) : ∃ y', f_X11_means_L68 (nI (iyY B b k)) (nI k) mF 0 y kk = kk y' ∧ yF wrW y y' ∧ stW B b (if fsT (kdK B b) (Wd B b) (Wd B b (k + 1)) k < k then rpW R 3 (k + 1) else R) y' := by
  obtain ⟨g1, g2, g3, g4, g5, g6, g7, g8⟩ := id hG
  have n4 := g1.1
  have p8 := g1.2.2.2.2.1
  have klt := cNk_lt hk c20
  have t1 := g1.2.1 k hk (Or.inl c20)
  have i8 : iyY B b k < 8 := by show cNk (kdK B b) 20 k < 8; omega
  refine lp_up (iyY B b k) (fun n a (s : mY) => f_X11_means_L68 (nI (iyY B b k)) (nI k) n a s kk) (fun j s => yF wrW y s ∧ ((stW B b R s ∧ ∀ q, q < k → kdK B b q = 20 → cNk (kdK B b) 20 q < j → Wd B b (q + 1) ≠ Wd B b (k + 1)) ∨ (stW B b (rpW R 3 (k + 1)) s ∧ ∃ q, q < k ∧ kdK B b q = 20 ∧ Wd B b (q + 1) = Wd B b (k + 1)))) (fun o => ∃ y', o = kk y' ∧ yF wrW y y' ∧ stW B b (if fsT (kdK B b) (Wd B b) (Wd B b (k + 1)) k < k then rpW R 3 (k + 1) else R) y') ?_ ?_ mF 0 y (Nat.lt_of_lt_of_le i8 (by decide)) (Nat.zero_le _) ⟨yF_rf _ _, Or.inl ⟨h, fun q _ _ hq => absurd hq (Nat.not_lt_zero _)⟩⟩
  · rintro n s ⟨f, hI⟩
    show ∃ y', f_X11_means_L68 _ _ (n + 1) (nI (iyY B b k)) s kk = _ ∧ _
    rw [f_X11_means_L68, if_pos (nI_le (Nat.le_refl _) (by omega))]
    refine ⟨s, rfl, f, ?_⟩
    rcases hI with ⟨a1, a2⟩ | ⟨a1, q, q1, q2, q3⟩
    · rw [if_neg]
      · exact a1
      · rw [fsT_no (fun j hj z => a2 j hj z.1 (cNk_lt hj z.1) z.2)]
        exact Nat.lt_irrefl _
    · rw [if_pos]
      · exact a1
      · refine Classical.byContradiction fun z => ?_
        have u := fsT_ok (K := kdK B b) (W := Wd B b) (w := Wd B b (k + 1)) k
        exact u.2.2 q (by omega) ⟨q2, q3⟩
  · rintro n j s hj ⟨f, hI⟩ ih
    show ∃ y', f_X11_means_L68 _ _ (n + 1) (nI j) s kk = _ ∧ _
    have hGs : ymG B b N s := ymG_F hG (yF_mo f (fun q c hq => wr_mn hq))
    obtain ⟨q1, q2, q3⟩ := nTk_ok (K := kdK B b) (q := 20) k j hj
    have v1 := hGs.2.2.2.2.2.2.2 (nTk (kdK B b) 20 k j) (by omega) q2
    have v2 := hGs.2.2.2.2.2.2.2 k hk c20
    rw [q3] at v1
    have w1 := (g1.2.1 _ (show nTk (kdK B b) 20 k j < N by omega) (Or.inl q2)).1
    have ve := vl_eq (r := 27) (Nat.le_refl _) (by decide) w1 t1.1
    rw [f_X11_means_L68, if_neg (nI_ge hj (by omega)), if_pos (in_ok (by omega) (by decide)), if_pos (in_ok i8 (by decide)), cl (by omega), cl (by omega), nI_1, nI_1, v1, show s.2 287 (iyY B b k) = _ from v2]
    by_cases c : Wd B b (nTk (kdK B b) 20 k j + 1) = Wd B b (k + 1)
    · rw [if_pos (cmp_0.mpr (ve.mpr c))]
      rcases hI with ⟨a1, a2⟩ | ⟨a1, a2⟩
      · obtain ⟨s1, e1, f1, g1'⟩ := wrong_s (c := 3) hGs a1 t1.2 (fun z => Or.inl (by have := hR z; omega)) (by decide) (by decide)
        rw [show f_X11_wrong (3 : Int32) (nI (k + 1)) s = some s1 from e1, Option.bind_some]
        exact ih s1 ⟨yF_tr f f1, Or.inr ⟨g1', _, q1, q2, c⟩⟩
      · have cond : ¬ (rpW R 3 (k + 1)).1 = 0 → ((rpW R 3 (k + 1)).2 < k + 1 ∨ rpW R 3 (k + 1) = (3, k + 1)) := by
          unfold rpW
          by_cases c0 : R.1 = 0
          · rw [if_pos c0]
            exact fun _ => Or.inr rfl
          · rw [if_neg c0]
            exact fun _ => Or.inl (by have := hR c0; omega)
        obtain ⟨s1, e1, f1, g1'⟩ := wrong_s (c := 3) hGs a1 t1.2 cond (by decide) (by decide)
        rw [show f_X11_wrong (3 : Int32) (nI (k + 1)) s = some s1 from e1, Option.bind_some]
        refine ih s1 ⟨yF_tr f f1, Or.inr ⟨?_, a2⟩⟩
        have ee : rpW (rpW R 3 (k + 1)) 3 (k + 1) = rpW R 3 (k + 1) := by
          unfold rpW
          by_cases c0 : R.1 = 0
          · rw [if_pos c0]
            rfl
          · rw [if_neg c0, if_neg c0]
        rw [ee] at g1'
        exact g1'
    · rw [if_neg (fun z => c (ve.mp (cmp_0.mp z)))]
      refine ih s ⟨f, hI.imp (fun a => ⟨a.1, fun q hq hq20 hqj => ?_⟩) id⟩
      by_cases e : cNk (kdK B b) 20 q = j
      · have eq := nTk_at hq hq20
        rw [e] at eq
        rw [← eq]
        exact c
      · exact a.2 q hq hq20 (by omega)
end TR
