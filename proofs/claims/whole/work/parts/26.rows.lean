/-! ===== rows of links: the reference's lays, the class's build ===== -/
def yR (r lo hi : Nat) (x x' : mY) : Prop := (∀ q, q ≠ r → x'.1 q = x.1 q) ∧ x'.2 = x.2 ∧ ∀ c, c < lo ∨ hi ≤ c → x'.1 r c = x.1 r c
theorem yR_rf (r lo hi : Nat) (x : mY) : yR r lo hi x x := ⟨fun _ _ => rfl, rfl, fun _ _ => rfl⟩
theorem yR_set {r lo hi c : Nat} {x x' : mY} {v : Int32} (h : yR r lo hi x x') (h1 : lo ≤ c) (h2 : c < hi) : yR r lo hi x (m_ys x' r c v) :=
  ⟨fun q hq => by rw [ys_ne hq]; exact h.1 q hq, h.2.1, fun k hk => by rw [ys_ec (by omega)]; exact h.2.2 k hk⟩
theorem yR_tr {r lo hi : Nat} {x x' x'' : mY} (h : yR r lo hi x x') (h' : yR r lo hi x' x'') : yR r lo hi x x'' :=
  ⟨fun q hq => (h'.1 q hq).trans (h.1 q hq), h'.2.1.trans h.2.1, fun c hc => (h'.2.2 c hc).trans (h.2.2 c hc)⟩
theorem yW_R {r lo hi : Nat} {W : Nat → Prop} {x x' : mY} (h : yR r lo hi x x') (hr : W r) : yW W x x' := ⟨fun q hq => h.1 q (fun e => hq (e ▸ hr)), h.2.1⟩
theorem row_or {f g : Nat → Int32} {base a b : Nat} (ha : a < 8) (hb : b < 8) (hab : a ≠ b) (h1 : g (base + b) = f (base + b) ||| ((1 : Int32) <<< (nI a &&& 31))) (h2 : g (base + a) = f (base + a) ||| ((1 : Int32) <<< (nI b &&& 31))) (h3 : ∀ p, p < 8 → p ≠ a → p ≠ b → g (base + p) = f (base + p)) (p : Nat) (hp : p < 8) (q : Nat) : bt (g (base + p)) q = true ↔ bt (f (base + p)) q = true ∨ (p = a ∧ q = b) ∨ (p = b ∧ q = a) := by
  by_cases e1 : p = b
  · subst e1
    rw [h1, b_or, b_bit (by omega), Bool.or_eq_true, decide_eq_true_eq]
    constructor
    · rintro (h | h)
      · exact Or.inl h
      · exact Or.inr (Or.inr ⟨rfl, h⟩)
    · rintro (h | ⟨h, _⟩ | ⟨_, h⟩)
      · exact Or.inl h
      · exact absurd h.symm hab
      · exact Or.inr h
  · by_cases e2 : p = a
    · subst e2
      rw [h2, b_or, b_bit (by omega), Bool.or_eq_true, decide_eq_true_eq]
      constructor
      · rintro (h | h)
        · exact Or.inl h
        · exact Or.inr (Or.inl ⟨rfl, h⟩)
      · rintro (h | ⟨_, h⟩ | ⟨h, _⟩)
        · exact Or.inl h
        · exact Or.inr h
        · exact absurd h e1
    · rw [h3 p hp e2 e1]
      constructor
      · exact Or.inl
      · rintro (h | ⟨h, _⟩ | ⟨h, _⟩)
        · exact h
        · exact absurd h e2
        · exact absurd h e1
/-- the rows so far -/
def sAj (σ : Nat → Int32) (L : Int32) (j p q : Nat) : Prop := q < 8 ∧ ∃ l, l < j ∧ bt L l = true ∧ sE σ l p q
theorem sAj_step {σ : Nat → Int32} {L : Int32} {j a b p q : Nat} (ha : a < 8) (hb : b < 8) (hp : p < 8) (hL : bt L j = true) (e1 : σ (8 + j) = nI a) (e2 : σ (24 + j) = nI b) : sAj σ L (j + 1) p q ↔ sAj σ L j p q ∨ (p = a ∧ q = b) ∨ (p = b ∧ q = a) := by
  constructor
  · rintro ⟨hq, l, hl, h1, h2⟩
    by_cases e : l = j
    · subst e; exact Or.inr ((sE_iff ha hb hp hq e1 e2).mp h2)
    · exact Or.inl ⟨hq, l, by omega, h1, h2⟩
  · rintro (⟨hq, l, hl, h1, h2⟩ | h)
    · exact ⟨hq, l, by omega, h1, h2⟩
    · have hq : q < 8 := by rcases h with h | h <;> omega
      exact ⟨hq, j, by omega, hL, (sE_iff ha hb hp hq e1 e2).mpr h⟩
theorem sAj_skip {σ : Nat → Int32} {L : Int32} {j p q : Nat} (hL : ¬ bt L j = true) : sAj σ L (j + 1) p q ↔ sAj σ L j p q := by
  constructor
  · rintro ⟨hq, l, hl, h1, h2⟩
    have : l ≠ j := fun e => hL (e ▸ h1)
    exact ⟨hq, l, by omega, h1, h2⟩
  · rintro ⟨hq, l, hl, h1, h2⟩
    exact ⟨hq, l, by omega, h1, h2⟩
theorem sAj_end {σ : Nat → Int32} {L : Int32} {j p q : Nat} (hp : p < 8) (hL : ∀ l, bt L l = true → l < j) (hj : j ≤ 16) : sAj σ L j p q ↔ sA σ L p q := by
  constructor
  · rintro ⟨hq, l, hl, h1, h2⟩
    exact ⟨hp, hq, l, by omega, h1, h2⟩
  · rintro ⟨_, hq, l, hl, h1, h2⟩
    exact ⟨hq, l, hL l h1, h1, h2⟩
theorem lays_ok {w np : Nat} (hw : w < 3) {L : Int32} (y : mY) (hW : sW (y.1 289) np) (hL : ∀ l, bt L l = true → l < sm (y.1 289)) : ∃ y', f_X11_lays_ (nI w) L y = some y' ∧ yR 293 (8 * w) (8 * w + 8) y y' ∧ ∀ p, p < 8 → ∀ q, bt (y'.1 293 (8 * w + p)) q = true ↔ sA (y.1 289) L p q := by
  unfold f_X11_lays_
  obtain ⟨w1, w2, w3, w4, w5, w6, w7, w8, w9⟩ := hW
  have e8 : ∀ n, (8 : Int32) * nI w + nI n = nI (8 * w + n) := fun n => by rw [show (8 : Int32) * nI w = nI (8 * w) from pk_mul 8 w, nI_add]
  refine lp_up 8 (fun n a s => f_X11_lays__L2 (nI w) n a s (fun y2 => (f_X11_lays__L28 (nI w) L mF (0 : Int32) y2))) (fun j s => yR 293 (8 * w) (8 * w + 8) y s ∧ ∀ p, p < j → s.1 293 (8 * w + p) = 0) (fun o => ∃ y', o = some y' ∧ yR 293 (8 * w) (8 * w + 8) y y' ∧ ∀ p, p < 8 → ∀ q, bt (y'.1 293 (8 * w + p)) q = true ↔ sA (y.1 289) L p q) ?_ ?_ mF 0 y (by decide) (by decide) ⟨yR_rf _ _ _ _, fun p hp => by omega⟩
  · intro n y2 hI2
    show ∃ y', f_X11_lays__L2 (nI w) (n + 1) (nI 8) y2 (fun y2 => (f_X11_lays__L28 (nI w) L mF (0 : Int32) y2)) = some y' ∧ _
    rw [f_X11_lays__L2, if_pos (by decide)]
    refine lp_ok (sm (y.1 289)) (fun n b s => f_X11_lays__L28 (nI w) L n b s) (fun j s => yR 293 (8 * w) (8 * w + 8) y s ∧ ∀ p, p < 8 → ∀ q, bt (s.1 293 (8 * w + p)) q = true ↔ sAj (y.1 289) L j p q) ?_ ?_ mF 0 y2 (Nat.lt_of_le_of_lt w3 (by decide)) (by omega) ⟨hI2.1, fun p hp q => ?_⟩
    · intro n s hI
      show ∃ r, f_X11_lays__L28 (nI w) L (n + 1) (nI (sm (y.1 289))) s = some r ∧ _
      have es : s.1 289 = y.1 289 := hI.1.1 289 (by decide)
      rw [f_X11_lays__L28, if_pos (by rw [es, w2]; exact (nI_leI (by omega) (by omega)).mpr (Nat.le_refl _))]
      exact ⟨s, rfl, hI.1, fun p hp q => (hI.2 p hp q).trans (sAj_end hp hL w3)⟩
    · intro n j s hj hI ih
      show ∃ r, f_X11_lays__L28 (nI w) L (n + 1) (nI j) s = some r ∧ _
      have es : s.1 289 = y.1 289 := hI.1.1 289 (by decide)
      rw [f_X11_lays__L28, es, if_neg (by rw [w2]; exact fun z => absurd ((nI_leI (by omega) (by omega)).mp z) (by omega)), nI_1]
      by_cases hb : bt L j = true
      · obtain ⟨a, b, ha, hb', hab, e1, e2⟩ := w7 j hj
        have es3 : ∀ c v, (m_ys s 293 c v).1 289 = y.1 289 := fun c v => (ys_ne (by decide)).trans es
        rw [if_neg (h11t (by omega) hb), a8, a24, if_pos (in_ok (by omega) (by decide)), cl (by omega), cl (by omega), e1, e2, e8, if_pos (in_ok (by omega) (by decide)), if_pos (in_ok (by omega) (by decide)), if_pos (in_ok (by omega) (by decide)), cl (by omega), m_let, if_pos (in_ok (by omega) (by decide)), es3, e2, e1, e8, if_pos (in_ok (by omega) (by decide)), if_pos (in_ok (by omega) (by decide)), if_pos (in_ok (by omega) (by decide)), cl (by omega), m_let]
        refine ih _ ⟨yR_set (yR_set hI.1 (by omega) (by omega)) (by omega) (by omega), fun p hp q => ?_⟩
        rw [sAj_step (by omega) (by omega) hp hb e1 e2, ← hI.2 p hp q]
        refine row_or (f := s.1 293) (base := 8 * w) (a := a) (b := b) (by omega) (by omega) hab ?_ ?_ ?_ p hp q
        · rw [ys_eq, ys_ec (by omega)]
        · rw [ys_ec (by omega), ys_eq]
        · intro p' _ h1 h2
          rw [ys_ec (by omega), ys_ec (by omega)]
      · rw [if_pos (h11f (by omega) hb)]
        exact ih s ⟨hI.1, fun p hp q => (hI.2 p hp q).trans (sAj_skip hb).symm⟩
    · rw [hI2.2 p hp, b_0]
      exact ⟨fun h => (by cases h), fun ⟨_, l, hl, _⟩ => absurd hl (by omega)⟩
  · intro n j s hj hI ih
    show ∃ y', f_X11_lays__L2 (nI w) (n + 1) (nI j) s (fun y2 => (f_X11_lays__L28 (nI w) L mF (0 : Int32) y2)) = some y' ∧ _
    rw [f_X11_lays__L2, if_neg (k8f hj), nI_1, e8, if_pos (in_ok (by omega) (by decide)), cl (by omega), m_let]
    refine ih _ ⟨yR_set hI.1 (by omega) (by omega), fun p hp => ?_⟩
    by_cases e : p = j
    · subst e; exact ys_eq _ _ _ _
    · exact (ys_ec (by omega)).trans (hI.2 p (by omega))
/-- the class's Net at a is of the posts P and the links L -/
def n_ok (X : Nat → Nat → Int32) (a : Nat) (σ : Nat → Int32) (P L : Int32) : Prop :=
  X a 0 = P ∧ X a 3 = L ∧ (∀ p, p < 8 → ∀ q, bt (X (a + 1) p) q = true ↔ sA σ L p q) ∧ n_div X a P (sA σ L) ∧ n_mat X a P (sA σ L) ∧
  ∀ l p q, l < 16 → bt L l = true → p < 8 → q < 8 → sE σ l p q → X (a + 3) (p * 8 + q) = nI l
theorem nA_sA {f : Nat → Int32} {σ : Nat → Int32} {L : Int32} (h : ∀ p, p < 8 → ∀ q, bt (f p) q = true ↔ sA σ L p q) : nA f = sA σ L := by
  funext p q
  refine propext ⟨fun k => (h p k.1 q).mp k.2.2, fun k => ⟨k.1, k.2.1, (h p k.1 q).mpr k⟩⟩
theorem build_ok {a np rt : Nat} (ha : n_adr a) {σ : Nat → Int32} {P L : Int32} (x : mX) (hR : sR x.1 14 σ np rt) (hW : sW σ np) (hP : b8 P) (hL : ∀ l, bt L l = true → l < sm σ) : ∃ x', f_X3_build a P L x = some x' ∧ xW (fun q => a ≤ q ∧ q ≤ a + 5) x x' ∧ n_ok x'.1 a σ P L := by
  have h14 : ¬ (a ≤ 14 ∧ 14 ≤ a + 5) := by rcases ha with rfl | rfl | rfl <;> decide
  have h15 : ¬ (a ≤ 15 ∧ 15 ≤ a + 5) := by rcases ha with rfl | rfl | rfl <;> decide
  have h16 : ¬ (a ≤ 16 ∧ 16 ≤ a + 5) := by rcases ha with rfl | rfl | rfl <;> decide
  obtain ⟨w1, w2, w3, w4, w5, w6, w7, w8, w9⟩ := hW
  obtain ⟨r0, r1, r2, r3, r4, r5, r6, r7, r8, r9, rl⟩ := hR
  unfold f_X3_build
  rw [m_let, m_let]
  refine lp_up 8 (fun n b s => f_X3_build_L13 a n b s (fun x4 => (f_X3_build_L37 a L mF (0 : Int32) x4))) (fun j s => xW (fun q => a ≤ q ∧ q ≤ a + 5) x s ∧ s.1 a 0 = P ∧ s.1 a 3 = L ∧ ∀ p, p < j → s.1 (a + 1) p = 0) (fun o => ∃ x', o = some x' ∧ xW (fun q => a ≤ q ∧ q ≤ a + 5) x x' ∧ n_ok x'.1 a σ P L) ?_ ?_ mF 0 _ (by decide) (by decide) ⟨xW_set (xW_set (xW_rf _ _) (by omega)) (by omega), (xs_ec (by decide)).trans (xs_eq _ _ _ _), xs_eq _ _ _ _, fun p hp => by omega⟩
  · intro n x4 hI4
    show ∃ x', f_X3_build_L13 a (n + 1) (nI 8) x4 (fun x4 => (f_X3_build_L37 a L mF (0 : Int32) x4)) = some x' ∧ _
    rw [f_X3_build_L13, if_pos (by decide)]
    refine lp_ok 16 (fun n b s => f_X3_build_L37 a L n b s) (fun j s => xW (fun q => a ≤ q ∧ q ≤ a + 5) x s ∧ s.1 a 0 = P ∧ s.1 a 3 = L ∧ (∀ p, p < 8 → ∀ q, bt (s.1 (a + 1) p) q = true ↔ sAj σ L j p q) ∧ ∀ l p q, l < j → bt L l = true → p < 8 → q < 8 → sE σ l p q → s.1 (a + 3) (p * 8 + q) = nI l) ?_ ?_ mF 0 x4 (by decide) (by decide) ⟨hI4.1, hI4.2.1, hI4.2.2.1, fun p hp q => ?_, fun l p q hl => by omega⟩
    · intro n s hI
      show ∃ r, f_X3_build_L37 a L (n + 1) (nI 16) s = some r ∧ _
      rw [f_X3_build_L37, if_pos (by decide)]
      obtain ⟨i1, i2, i3, i4, i5⟩ := hI
      have rows : ∀ p, p < 8 → ∀ q, bt (s.1 (a + 1) p) q = true ↔ sA σ L p q := fun p hp q => (i4 p hp q).trans (sAj_end hp (fun l hl => by have := hL l hl; omega) (Nat.le_refl _))
      have eA := nA_sA rows
      obtain ⟨s2, e2, f2, d2⟩ := divide_ok ha s (by rw [i2]; exact hP) (by rw [eA]; exact fun c d => sA_sy c d)
      rw [e2, Option.bind_some]
      have ea : s2.1 a = s.1 a := f2.1 a (by omega)
      rw [i2, eA] at d2
      obtain ⟨s3, e3, f3, d3⟩ := match_ok (A := sA σ L) ha s2 (by rw [ea, i2]; exact d2) (by rw [ea, i2]; exact hP)
      rw [e3, Option.bind_some]
      rw [ea, i2] at d3
      refine ⟨s3, rfl, xW_tr i1 (xW_tr (xW_mo f2 (fun q hq => by omega)) (xW_mo f3 (fun q hq => by omega))), ?_⟩
      have g3 : ∀ q, q ≠ a + 5 → s3.1 q = s2.1 q := f3.1
      have g2 : ∀ q, q ≠ a + 2 → q ≠ a + 4 → s2.1 q = s.1 q := fun q h1 h2 => f2.1 q (fun z => z.elim h1 h2)
      refine ⟨?_, ?_, ?_, ?_, d3, ?_⟩
      · rw [g3 a (by omega), g2 a (by omega) (by omega), i2]
      · rw [g3 a (by omega), g2 a (by omega) (by omega), i3]
      · rw [g3 (a + 1) (by omega), g2 (a + 1) (by omega) (by omega)]; exact rows
      · refine ⟨fun p hp i => ?_, fun g hg p hp i => ?_⟩
        · rw [g3 (a + 2) (by omega)]; exact d2.1 p hp i
        · rw [g3 (a + 4) (by omega)]; exact d2.2 g hg p hp i
      · rw [g3 (a + 3) (by omega), g2 (a + 3) (by omega) (by omega)]; exact i5
    · intro n j s hj hI ih
      show ∃ r, f_X3_build_L37 a L (n + 1) (nI j) s = some r ∧ _
      obtain ⟨i1, i2, i3, i4, i5⟩ := hI
      have s14 : s.1 14 = x.1 14 := i1.1 14 h14
      have s15 : s.1 15 = x.1 15 := i1.1 15 h15
      have s16 : s.1 16 = x.1 16 := i1.1 16 h16
      rw [f_X3_build_L37, if_neg (k16f hj), nI_1, s14, s15, s16, r1, w2]
      have skip : ¬ bt L j = true → ∃ r, f_X3_build_L37 a L n (nI (j + 1)) s = some r ∧ xW (fun q => a ≤ q ∧ q ≤ a + 5) x r ∧ n_ok r.1 a σ P L := by
        intro hb
        refine ih s ⟨i1, i2, i3, fun p hp q => (i4 p hp q).trans (sAj_skip hb).symm, fun l p q hl hLl => ?_⟩
        have : l ≠ j := fun e => hb (e ▸ hLl)
        exact i5 l p q (by omega) hLl
      by_cases hm : sm σ ≤ j
      · rw [if_pos ((nI_leI (by omega) (by omega)).mpr hm)]
        exact skip (fun h => by have := hL j h; omega)
      · rw [if_neg (fun z => hm ((nI_leI (by omega) (by omega)).mp z))]
        by_cases hb : bt L j = true
        · obtain ⟨p0, q0, hp0, hq0, hpq, e1, e2⟩ := w7 j (by omega)
          have c1 : x.1 15 j = nI p0 := (rl j (by omega)).1.trans e1
          have c2 : x.1 16 j = nI q0 := (rl j (by omega)).2.1.trans e2
          have m8 : ∀ u v, nI u * (8 : Int32) + nI v = nI (u * 8 + v) := fun u v => by rw [show nI u * (8 : Int32) = nI (u * 8) from pk_mul u 8, nI_add]
          rw [if_neg (h10t (by omega) hb), if_pos (in_ok hj (by decide)), if_pos (in_ok hj (by decide)), cl (by omega : j < 100000), c1, c2, if_pos (in_ok (by omega) (by decide)), if_pos (in_ok (by omega) (by decide)), cl (by omega : p0 < 100000), m_let, if_pos (in_ok (by omega) (by decide)), if_pos (in_ok (by omega) (by decide)), cl (by omega : q0 < 100000), m_let, m8, if_pos (in_ok (by omega) (by decide)), cl (by omega), m_let, m8, if_pos (in_ok (by omega) (by decide)), cl (by omega), m_let]
          refine ih _ ⟨xW_set (xW_set (xW_set (xW_set i1 (by omega)) (by omega)) (by omega)) (by omega), ?_, ?_, fun p hp q => ?_, fun l p q hl hLl hp hq hE => ?_⟩
          · rw [xs_ne (by omega), xs_ne (by omega), xs_ne (by omega), xs_ne (by omega)]; exact i2
          · rw [xs_ne (by omega), xs_ne (by omega), xs_ne (by omega), xs_ne (by omega)]; exact i3
          · rw [sAj_step (by omega) (by omega) hp hb e1 e2, ← i4 p hp q, xs_ne (by omega), xs_ne (by omega)]
            have := row_or (f := s.1 (a + 1)) (g := (m_xs (m_xs s (a + 1) p0 (s.1 (a + 1) p0 ||| ((1 : Int32) <<< (nI q0 &&& 31)))) (a + 1) q0 ((m_xs s (a + 1) p0 (s.1 (a + 1) p0 ||| ((1 : Int32) <<< (nI q0 &&& 31)))).1 (a + 1) q0 ||| ((1 : Int32) <<< (nI p0 &&& 31)))).1 (a + 1)) (base := 0) (a := p0) (b := q0) (by omega) (by omega) hpq (by rw [xs_at, if_pos (by omega), xs_ec (by omega), Nat.zero_add]) (by rw [xs_ec (by omega), xs_at, if_pos (by omega), Nat.zero_add]) (fun p' _ h1 h2 => by rw [xs_ec (by omega), xs_ec (by omega)]) p hp q
            rw [Nat.zero_add] at this
            exact this
          · by_cases hlj : l = j
            · subst hlj
              rcases (sE_iff (by omega) (by omega) hp hq e1 e2).mp hE with ⟨rfl, rfl⟩ | ⟨rfl, rfl⟩
              · rw [xs_ec (by omega), xs_eq]
              · rw [xs_eq]
            · have hne : ¬ ((p = p0 ∧ q = q0) ∨ (p = q0 ∧ q = p0)) := fun h => hlj (w8 l j p q (hL l hLl) (by omega) hp hq hE ((sE_iff (by omega) (by omega) hp hq e1 e2).mpr h))
              rw [xs_ec (by omega), xs_ec (by omega), xs_ne (by omega), xs_ne (by omega)]
              exact i5 l p q (by omega) hLl hp hq hE
        · rw [if_pos (h10f (by omega) hb)]
          exact skip hb
    · rw [hI4.2.2.2 p hp, b_0]
      exact ⟨fun h => (by cases h), fun ⟨_, l, hl, _⟩ => absurd hl (by omega)⟩
  · intro n j s hj hI ih
    show ∃ x', f_X3_build_L13 a (n + 1) (nI j) s (fun x4 => (f_X3_build_L37 a L mF (0 : Int32) x4)) = some x' ∧ _
    rw [f_X3_build_L13, if_neg (k8f hj), nI_1, if_pos (in_ok hj (by decide)), cl (by omega), m_let]
    refine ih _ ⟨xW_set hI.1 (by omega), (by rw [xs_ne (by omega)]; exact hI.2.1), (by rw [xs_ne (by omega)]; exact hI.2.2.1), fun p hp => ?_⟩
    by_cases e : p = j
    · subst e; exact xs_eq _ _ _ _
    · exact (xs_ec (by omega)).trans (hI.2.2.2 p (by omega))
