/-! ===== joined ===== -/
section SN
variable {np rt s d : Nat} {x x' : mX} {y y0 : mY} {σ : Nat → Int32} {M : Int32}
theorem and0 {S T : Int32} : S &&& T = 0 ↔ ∀ i, bt S i = true → ¬ bt T i = true := by
  constructor
  · intro h i h1 h2
    have : bt (S &&& T) i = true := by rw [b_and, h1, h2]; rfl
    rw [h, b_0] at this
    cases this
  · intro h
    refine b_eq0 fun i hi => ?_
    rw [b_and, Bool.and_eq_true] at hi
    exact h i hi.1 hi.2
/-- links within a live set -/
def mlv (σ : Nat → Int32) (M : Int32) : Prop := ∀ l, bt M l = true → l < sm σ ∧ ∀ a b, a < 8 → b < 8 → sE σ l a b → bt (σ 0) a = true
theorem mlv_A (h : mlv σ M) {a b : Nat} (k : sA σ M a b) : bS (σ 0) a ∧ bS (σ 0) b := by
  obtain ⟨a8, b8, l, _, l1, l2⟩ := k
  exact ⟨(h l l1).2 a b a8 b8 l2, (h l l1).2 b a b8 a8 (sE_sy l2)⟩
theorem joined_L27 (hR : sR x.1 14 σ np rt) (hW : sW σ np) (hM : mlv σ M) {S0 : Int32} (hS : ∀ i, bt S0 i = true → g_C (sA σ M) (bS (σ 0)) s i) (kk : Int32 → Option Int32) : ∃ S, f_X6_joined_L27 M mF S0 0 x kk = kk S ∧ (∀ i, bt S0 i = true → bt S i = true) ∧ (∀ i, bt S i = true → g_C (sA σ M) (bS (σ 0)) s i) ∧ ∀ p q, bt S0 p = true → sA σ M p q → bt S q = true := by
  have n8 := hW.1
  have m16 := hW.2.2.1
  have z := lp_up 16 (fun n b (S : Int32) => f_X6_joined_L27 M n S b x kk) (fun j S => (∀ i, bt S0 i = true → bt S i = true) ∧ (∀ i, bt S i = true → g_C (sA σ M) (bS (σ 0)) s i) ∧ ∀ l, l < j → bt M l = true → ∀ p q, p < 8 → q < 8 → sE σ l p q → bt S0 p = true → bt S q = true) (fun o => ∃ S, o = kk S ∧ (∀ i, bt S0 i = true → bt S i = true) ∧ (∀ i, bt S i = true → g_C (sA σ M) (bS (σ 0)) s i) ∧ ∀ p q, bt S0 p = true → sA σ M p q → bt S q = true) (by
    rintro n S ⟨h1, h2, h3⟩
    show ∃ S', f_X6_joined_L27 M (n + 1) S (nI 16) x kk = kk S' ∧ _
    rw [f_X6_joined_L27, if_pos (by decide)]
    exact ⟨S, rfl, h1, h2, fun p q hp ⟨p8, q8, l, l1, l2, l3⟩ => h3 l l1 l2 p q p8 q8 l3 hp⟩) (by
    rintro n j S hj ⟨h1, h2, h3⟩ ih
    show ∃ S', f_X6_joined_L27 M (n + 1) S (nI j) x kk = kk S' ∧ _
    rw [f_X6_joined_L27, if_neg (k16f hj), if_pos (in_ok hj (by decide)), if_pos (in_ok hj (by decide)), nI_1, hR.2.1, hW.2.1]
    have skip : (bt M j = true → ∀ p q, p < 8 → q < 8 → sE σ j p q → bt S0 p = true → bt S q = true) → ∃ S', f_X6_joined_L27 M n S (nI (j + 1)) x kk = kk S' ∧ (∀ i, bt S0 i = true → bt S' i = true) ∧ (∀ i, bt S' i = true → g_C (sA σ M) (bS (σ 0)) s i) ∧ ∀ p q, bt S0 p = true → sA σ M p q → bt S' q = true := fun hx => ih S ⟨h1, h2, fun l hl hb => by
      by_cases e : l = j
      · rw [e] at hb ⊢
        exact hx hb
      · exact h3 l (by omega) hb⟩
    by_cases c1 : sm σ ≤ j
    · rw [if_pos (nI_le c1 (by omega))]
      exact skip (fun hb => absurd (hM j hb).1 (by omega))
    · rw [if_neg (nI_ge (by omega) (by omega))]
      by_cases c2 : bt M j = true
      · rw [if_neg (h10t (by omega) c2), cl (by omega)]
        obtain ⟨a, b, a1, b1, ab, e1, e2⟩ := hW.2.2.2.2.2.2.1 j (by omega)
        have r := hR.2.2.2.2.2.2.2.2.2.2 j (by omega)
        rw [r.1, r.2.1, e1, e2]
        have hm : ∀ i, bt (((1 : Int32) <<< (nI a &&& 31)) ||| ((1 : Int32) <<< (nI b &&& 31))) i = true ↔ i = a ∨ i = b := fun i => by
          rw [b_or, Bool.or_eq_true, b_bit (by omega), b_bit (by omega), decide_eq_true_eq, decide_eq_true_eq]
        have Aab : sA σ M a b := ⟨by omega, by omega, j, by omega, c2, (sE_iff (by omega) (by omega) (by omega) (by omega) e1 e2).mpr (Or.inl ⟨rfl, rfl⟩)⟩
        have Vab := mlv_A hM Aab
        by_cases c3 : S &&& (((1 : Int32) <<< (nI a &&& 31)) ||| ((1 : Int32) <<< (nI b &&& 31))) = 0
        · rw [if_pos c3]
          refine skip (fun _ p q p8 q8 he hp => ?_)
          have := and0.mp c3 p (h1 p hp)
          rw [hm p] at this
          rcases (sE_iff (by omega) (by omega) p8 q8 e1 e2).mp he with ⟨rfl, rfl⟩ | ⟨rfl, rfl⟩
          · exact absurd (Or.inl rfl) this
          · exact absurd (Or.inr rfl) this
        · rw [if_neg c3]
          have touch : g_C (sA σ M) (bS (σ 0)) s a ∨ g_C (sA σ M) (bS (σ 0)) s b := by
            refine Classical.byContradiction fun z => c3 (and0.mpr fun i hi hb => z ?_)
            rcases (hm i).mp hb with rfl | rfl
            · exact Or.inl (h2 _ hi)
            · exact Or.inr (h2 _ hi)
          have both : g_C (sA σ M) (bS (σ 0)) s a ∧ g_C (sA σ M) (bS (σ 0)) s b := by
            rcases touch with t | t
            · exact ⟨t, g_st t Aab Vab.2⟩
            · exact ⟨g_st t (sA_sy _ _ Aab) Vab.1, t⟩
          refine ih _ ⟨fun i hi => by rw [b_or, h1 i hi]; rfl, fun i hi => ?_, fun l hl hb p q p8 q8 he hp => ?_⟩
          · rw [b_or, Bool.or_eq_true] at hi
            rcases hi with hi | hi
            · exact h2 i hi
            · rcases (hm i).mp hi with rfl | rfl
              · exact both.1
              · exact both.2
          · rw [b_or, Bool.or_eq_true]
            by_cases e : l = j
            · subst e
              right
              rw [hm q]
              rcases (sE_iff (by omega) (by omega) p8 q8 e1 e2).mp he with ⟨rfl, rfl⟩ | ⟨rfl, rfl⟩
              · exact Or.inr rfl
              · exact Or.inl rfl
            · exact Or.inl (h3 l (by omega) hb p q p8 q8 he hp)
      · rw [if_pos (h10f (by omega) c2)]
        exact skip (fun hb => absurd hb c2)) mF 0 S0 (by decide) (by decide) ⟨fun _ h => h, hS, fun l hl => by omega⟩
  exact z
theorem joined_ok (hR : sR x.1 14 σ np rt) (hW : sW σ np) (hM : mlv σ M) (hs : bt (σ 0) s = true) (hd : d < 8) : (g_C (sA σ M) (bS (σ 0)) s d ∧ f_X6_joined (nI s) (nI d) M x = some 1) ∨ (¬ g_C (sA σ M) (bS (σ 0)) s d ∧ f_X6_joined (nI s) (nI d) M x = some 0) := by
  have hs8 : s < 8 := Nat.lt_of_lt_of_le (hW.2.2.2.1 s hs) hW.1
  have c8 : ∀ i, g_C (sA σ M) (bS (σ 0)) s i → i < 8 := fun i hi => by
    refine hi.2 (fun i => i < 8) hs8 (fun c d _ _ k _ => k.2.1)
  unfold f_X6_joined
  have z := lp_up 8 (fun n b (S : Int32) => f_X6_joined_L8 (nI d) M n S b x) (fun j S => bt S s = true ∧ (∀ i, bt S i = true → g_C (sA σ M) (bS (σ 0)) s i) ∧ ((∀ i, g_C (sA σ M) (bS (σ 0)) s i → bt S i = true) ∨ j + 1 ≤ g_n (bS S) 8)) (fun o => (g_C (sA σ M) (bS (σ 0)) s d ∧ o = some 1) ∨ (¬ g_C (sA σ M) (bS (σ 0)) s d ∧ o = some 0)) (by
    rintro n S ⟨h1, h2, h3⟩
    show (_ ∧ f_X6_joined_L8 (nI d) M (n + 1) S (nI 8) x = _) ∨ (_ ∧ f_X6_joined_L8 (nI d) M (n + 1) S (nI 8) x = _)
    rw [f_X6_joined_L8, if_pos (by decide), h10 (by omega)]
    have cl' : ∀ i, g_C (sA σ M) (bS (σ 0)) s i → bt S i = true := h3.elim id (fun z => absurd (g_n_bound (P := bS S) 8) (by omega))
    by_cases c : bt S d = true
    · left
      exact ⟨h2 d c, by rw [if_pos c, if_pos (by decide)]⟩
    · right
      exact ⟨fun z => c (cl' d z), by rw [if_neg c, if_pos (by decide)]⟩) (by
    rintro n j S hj ⟨h1, h2, h3⟩ ih
    show (_ ∧ f_X6_joined_L8 (nI d) M (n + 1) S (nI j) x = _) ∨ (_ ∧ f_X6_joined_L8 (nI d) M (n + 1) S (nI j) x = _)
    rw [f_X6_joined_L8, if_neg (k8f hj), h10 (by omega), nI_1]
    by_cases c : bt S d = true
    · left
      exact ⟨h2 d c, by rw [if_pos c, if_neg (by decide), if_pos (by decide)]⟩
    · rw [if_neg c, if_pos rfl]
      obtain ⟨S', e1, g1, g2, g3⟩ := joined_L27 (x := x) (s := s) hR hW hM h2 (fun v1 => (f_X6_joined_L8 (nI d) M n v1 (nI (j + 1)) x))
      rw [e1]
      refine ih S' ⟨g1 s h1, g2, ?_⟩
      rcases h3 with h3 | h3
      · exact Or.inl (fun i hi => g1 i (h3 i hi))
      · by_cases cc : ∃ i, bt S' i = true ∧ ¬ bt S i = true
        · right
          obtain ⟨i, i1, i2⟩ := cc
          have := g_n_lt (P := bS S) (Q := bS S') 8 i (c8 i (g2 i i1)) (fun c _ hc => g1 c hc) i1 i2
          omega
        · left
          intro i hi
          refine g1 i (hi.2 (fun i => bt S i = true) h1 (fun p q hp _ hA _ => ?_))
          exact Classical.byContradiction fun z => cc ⟨q, g3 p q hp hA, z⟩) mF 0 ((1 : Int32) <<< (nI s &&& 31)) (by decide) (by decide) ⟨by rw [b_bit (by omega)]; exact decide_eq_true rfl, fun i hi => by
        rw [b_bit (by omega), decide_eq_true_eq] at hi
        rw [hi]
        exact g_rf hs, Or.inr (g_n_pos 8 s hs8 (by show bt _ s = true; rw [b_bit (by omega)]; exact decide_eq_true rfl))⟩
  exact z
end SN
