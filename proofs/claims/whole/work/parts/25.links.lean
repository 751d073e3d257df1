/-! ===== states: links, live links, rows of links ===== -/
/-- how many links a state has -/
def sm (σ : Nat → Int32) : Nat := (σ 4).toNatClampNeg
/-- link l is of p and q -/
def sE (σ : Nat → Int32) (l p q : Nat) : Prop := (σ (8 + l) = nI p ∧ σ (24 + l) = nI q) ∨ (σ (8 + l) = nI q ∧ σ (24 + l) = nI p)
/-- the links of a set -/
def sA (σ : Nat → Int32) (L : Int32) (p q : Nat) : Prop := p < 8 ∧ q < 8 ∧ ∃ l, l < 16 ∧ bt L l = true ∧ sE σ l p q
/-- a state as it should be: np posts -/
def sW (σ : Nat → Int32) (np : Nat) : Prop :=
  np ≤ 8 ∧ σ 4 = nI (sm σ) ∧ sm σ ≤ 16 ∧ (∀ i, bt (σ 0) i = true → i < np) ∧ (∀ i, bt (σ 2) i = true → i < np) ∧
  (∀ l, bt (σ 3) l = true → l < sm σ ∧ ∀ a b, a < 8 → b < 8 → sE σ l a b → bt (σ 2) a = true) ∧
  (∀ l, l < sm σ → ∃ a b, a < np ∧ b < np ∧ a ≠ b ∧ σ (8 + l) = nI a ∧ σ (24 + l) = nI b) ∧
  (∀ l k a b, l < sm σ → k < sm σ → a < 8 → b < 8 → sE σ l a b → sE σ k a b → l = k) ∧
  (∀ l, l < sm σ → ∃ c, 1 ≤ c ∧ c ≤ 99 ∧ σ (40 + l) = nI c)
/-- the class's state at a is this state -/
def sR (X : Nat → Nat → Int32) (a : Nat) (σ : Nat → Int32) (np rt : Nat) : Prop :=
  X a 0 = nI np ∧ X a 1 = σ 4 ∧ X a 2 = σ 0 ∧ X a 3 = σ 1 ∧ X a 4 = nI rt ∧ X a 5 = σ 2 ∧ X a 6 = σ 3 ∧ X a 7 = σ 5 ∧ X a 8 = σ 6 ∧ X a 9 = σ 7 ∧
  ∀ l, l < sm σ → X (a + 1) l = σ (8 + l) ∧ X (a + 2) l = σ (24 + l) ∧ X (a + 3) l = σ (40 + l) ∧ X (a + 4) l = σ (56 + l)
def sL (σ : Nat → Int32) (V : Int32) : Prop := ∀ l, bt V l = true ↔ l < sm σ ∧ bt (σ 1) l = true ∧ ∀ a b, a < 8 → b < 8 → sE σ l a b → bt (σ 0) a = true
theorem sL_un {σ : Nat → Int32} {V W : Int32} (h : sL σ V) (h' : sL σ W) : V = W := b_eq_iff fun l => (h l).trans (h' l).symm
theorem sE_sy {σ : Nat → Int32} {l p q : Nat} (h : sE σ l p q) : sE σ l q p := h.symm
theorem sA_sy {σ : Nat → Int32} {L : Int32} (p q : Nat) (h : sA σ L p q) : sA σ L q p := ⟨h.2.1, h.1, h.2.2.imp fun _ k => ⟨k.1, k.2.1, sE_sy k.2.2⟩⟩
theorem sE_iff {σ : Nat → Int32} {l a b p q : Nat} (ha : a < 8) (hb : b < 8) (hp : p < 8) (hq : q < 8) (h1 : σ (8 + l) = nI a) (h2 : σ (24 + l) = nI b) : sE σ l p q ↔ (p = a ∧ q = b) ∨ (p = b ∧ q = a) := by
  unfold sE
  rw [h1, h2, nI_eq (by omega) (by omega), nI_eq (by omega) (by omega), nI_eq (by omega) (by omega), nI_eq (by omega) (by omega)]
  constructor
  · rintro (⟨rfl, rfl⟩ | ⟨rfl, rfl⟩)
    · exact Or.inl ⟨rfl, rfl⟩
    · exact Or.inr ⟨rfl, rfl⟩
  · rintro (⟨rfl, rfl⟩ | ⟨rfl, rfl⟩)
    · exact Or.inl ⟨rfl, rfl⟩
    · exact Or.inr ⟨rfl, rfl⟩
theorem sL_l {σ : Nat → Int32} {l a b : Nat} {V : Int32} (ha : a < 8) (hb : b < 8) (h1 : σ (8 + l) = nI a) (h2 : σ (24 + l) = nI b) : (∀ p q, p < 8 → q < 8 → sE σ l p q → bt (σ 0) p = true) ↔ bt (σ 0) a = true ∧ bt (σ 0) b = true := by
  constructor
  · intro h
    exact ⟨h a b ha hb ((sE_iff ha hb ha hb h1 h2).mpr (Or.inl ⟨rfl, rfl⟩)), h b a hb ha ((sE_iff ha hb hb ha h1 h2).mpr (Or.inr ⟨rfl, rfl⟩))⟩
  · intro h p q hp hq he
    rcases (sE_iff ha hb hp hq h1 h2).mp he with ⟨rfl, rfl⟩ | ⟨rfl, rfl⟩
    · exact h.1
    · exact h.2
theorem a8 (n : Nat) : (8 : Int32) + nI n = nI (8 + n) := nI_add 8 n
theorem a24 (n : Nat) : (24 : Int32) + nI n = nI (24 + n) := nI_add 24 n
theorem a40 (n : Nat) : (40 : Int32) + nI n = nI (40 + n) := nI_add 40 n
theorem a56 (n : Nat) : (56 : Int32) + nI n = nI (56 + n) := nI_add 56 n
theorem nr1_has {n : Nat} (hn : n < 32) (s : Int32) : m_nr 1 (f_X11_has s (nI n)) = true := by
  rw [h11 hn]
  by_cases h : bt s n = true
  · rw [if_pos h]; decide
  · rw [if_neg h]; decide
theorem isOn_ok {n : Nat} (hn : n < 32) (y : mY) : f_X11_isOn (nI n) y = some (if bt (y.1 289 0) n = true then 1 else 0) := by
  unfold f_X11_isOn
  rw [if_pos (nr1_has hn _), h11 hn]
theorem live_ok {a : Nat} {σ : Nat → Int32} {np rt : Nat} (x : mX) (hR : sR x.1 a σ np rt) (hW : sW σ np) : ∃ V, f_X6_live a x = some V ∧ sL σ V := by
  unfold f_X6_live
  obtain ⟨w1, w2, w3, w4, w5, w6, w7, w8, w9⟩ := hW
  obtain ⟨r0, r1, r2, r3, r4, r5, r6, r7, r8, r9, rl⟩ := hR
  refine lp_ok 16 (fun n b (s : Int32) => f_X6_live_L4 a n s b x) (fun j s => ∀ l, bt s l = true ↔ l < j ∧ l < sm σ ∧ bt (σ 1) l = true ∧ ∀ p q, p < 8 → q < 8 → sE σ l p q → bt (σ 0) p = true) ?_ ?_ mF 0 0 (by decide) (by decide) (fun l => by rw [b_0]; exact ⟨fun h => (by cases h), fun h => absurd h.1 (by omega)⟩)
  · intro n s hI
    show ∃ r, f_X6_live_L4 a (n + 1) s (nI 16) x = some r ∧ _
    rw [f_X6_live_L4, if_pos (by decide)]
    refine ⟨s, rfl, fun l => ?_⟩
    rw [hI l]
    exact ⟨fun h => h.2, fun h => ⟨by omega, h⟩⟩
  · intro n j s hj hI ih
    show ∃ r, f_X6_live_L4 a (n + 1) s (nI j) x = some r ∧ _
    rw [f_X6_live_L4, if_neg (k16f hj), nI_1, r1, r2, r3, w2]
    have skip : ¬ (j < sm σ ∧ bt (σ 1) j = true ∧ ∀ p q, p < 8 → q < 8 → sE σ j p q → bt (σ 0) p = true) → ∃ r, f_X6_live_L4 a n s (nI (j + 1)) x = some r ∧ sL σ r := by
      intro hno
      refine ih s (fun l => ?_)
      rw [hI l]
      refine ⟨fun h => ⟨by omega, h.2⟩, fun h => ⟨?_, h.2⟩⟩
      have : l ≠ j := fun e => hno (e ▸ h.2)
      omega
    by_cases hm : sm σ ≤ j
    · rw [if_pos ((nI_leI (by omega) (by omega)).mpr hm)]
      exact skip (fun h => by omega)
    · rw [if_neg (fun z => hm ((nI_leI (by omega) (by omega)).mp z))]
      by_cases hu : bt (σ 1) j = true
      · obtain ⟨p, q, hp, hq, hpq, e1, e2⟩ := w7 j (by omega)
        have key := sL_l (V := 0) (σ := σ) (l := j) (a := p) (b := q) (by omega) (by omega) e1 e2
        rw [if_neg (h10t (by omega) hu), if_pos (in_ok hj (by decide)), cl (by omega), (rl j (by omega)).1, (rl j (by omega)).2.1, e1, e2]
        by_cases hp1 : bt (σ 0) p = true
        · rw [if_neg (h10t (by omega) hp1), if_pos (in_ok hj (by decide))]
          by_cases hq1 : bt (σ 0) q = true
          · rw [if_neg (h10t (by omega) hq1)]
            refine ih _ (fun l => ?_)
            rw [b_or, b_bit (by omega), Bool.or_eq_true, decide_eq_true_eq, hI l]
            constructor
            · rintro (h | rfl)
              · exact ⟨by omega, h.2⟩
              · exact ⟨by omega, by omega, hu, key.mpr ⟨hp1, hq1⟩⟩
            · intro h
              by_cases e : l = j
              · exact Or.inr e
              · exact Or.inl ⟨by omega, h.2⟩
          · rw [if_pos (h10f (by omega) hq1)]
            exact skip (fun h => hq1 (key.mp h.2.2).2)
        · rw [if_pos (h10f (by omega) hp1)]
          exact skip (fun h => hp1 (key.mp h.2.2).1)
      · rw [if_pos (h10f (by omega) hu)]
        exact skip (fun h => hu h.2.1)
theorem netLinks_ok {np : Nat} (y : mY) (hW : sW (y.1 289) np) : ∃ V, f_X11_netLinks y = some V ∧ sL (y.1 289) V := by
  unfold f_X11_netLinks
  obtain ⟨w1, w2, w3, w4, w5, w6, w7, w8, w9⟩ := hW
  refine lp_ok (sm (y.1 289)) (fun n b (s : Int32) => f_X11_netLinks_L4 n s b y) (fun j s => ∀ l, bt s l = true ↔ l < j ∧ bt (y.1 289 1) l = true ∧ ∀ p q, p < 8 → q < 8 → sE (y.1 289) l p q → bt (y.1 289 0) p = true) ?_ ?_ mF 0 0 (Nat.lt_of_le_of_lt w3 (by decide)) (by omega) (fun l => by rw [b_0]; exact ⟨fun h => (by cases h), fun h => absurd h.1 (by omega)⟩)
  · intro n s hI
    show ∃ r, f_X11_netLinks_L4 (n + 1) s (nI (sm (y.1 289))) y = some r ∧ _
    rw [f_X11_netLinks_L4, if_pos (by rw [w2]; exact (nI_leI (by omega) (by omega)).mpr (Nat.le_refl _))]
    exact ⟨s, rfl, hI⟩
  · intro n j s hj hI ih
    show ∃ r, f_X11_netLinks_L4 (n + 1) s (nI j) y = some r ∧ _
    rw [f_X11_netLinks_L4, if_neg (by rw [w2]; exact fun z => absurd ((nI_leI (by omega) (by omega)).mp z) (by omega)), nI_1]
    have skip : ¬ (bt (y.1 289 1) j = true ∧ ∀ p q, p < 8 → q < 8 → sE (y.1 289) j p q → bt (y.1 289 0) p = true) → ∃ r, f_X11_netLinks_L4 n s (nI (j + 1)) y = some r ∧ sL (y.1 289) r := by
      intro hno
      refine ih s (fun l => ?_)
      rw [hI l]
      refine ⟨fun h => ⟨by omega, h.2⟩, fun h => ⟨?_, h.2⟩⟩
      have : l ≠ j := fun e => hno (e ▸ h.2)
      omega
    by_cases hu : bt (y.1 289 1) j = true
    · obtain ⟨p, q, hp, hq, hpq, e1, e2⟩ := w7 j hj
      have key := sL_l (V := 0) (σ := y.1 289) (l := j) (a := p) (b := q) (by omega) (by omega) e1 e2
      rw [if_neg (h11t (by omega) hu), a8, a24, if_pos (in_ok (by omega) (by decide)), cl (by omega), cl (by omega), e1, e2, isOn_ok (by omega), Option.bind_some]
      by_cases hp1 : bt (y.1 289 0) p = true
      · rw [if_pos hp1, if_neg (by decide), if_pos (in_ok (by omega) (by decide)), isOn_ok (by omega), Option.bind_some]
        by_cases hq1 : bt (y.1 289 0) q = true
        · rw [if_pos hq1, if_neg (by decide)]
          refine ih _ (fun l => ?_)
          rw [b_or, b_bit (by omega), Bool.or_eq_true, decide_eq_true_eq, hI l]
          constructor
          · rintro (h | rfl)
            · exact ⟨by omega, h.2⟩
            · exact ⟨by omega, hu, key.mpr ⟨hp1, hq1⟩⟩
          · intro h
            by_cases e : l = j
            · exact Or.inr e
            · exact Or.inl ⟨by omega, h.2⟩
        · rw [if_neg hq1, if_pos rfl]
          exact skip (fun h => hq1 (key.mp h.2).2)
      · rw [if_neg hp1, if_pos rfl]
        exact skip (fun h => hp1 (key.mp h.2).1)
    · rw [if_pos (h11f (by omega) hu)]
      exact skip (fun h => hu h.1)
