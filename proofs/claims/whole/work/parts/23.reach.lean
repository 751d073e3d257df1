/-! ===== reach, comes, parts: the pieces within a set ===== -/
/-- the links that rows of bits tell -/
def nA (f : Nat → Int32) (p q : Nat) : Prop := p < 8 ∧ q < 8 ∧ bt (f p) q = true
def bS (W : Int32) (i : Nat) : Prop := bt W i = true
theorem g_closed {A : Nat → Nat → Prop} {W : Nat → Prop} {a : Nat} {S : Nat → Prop} (h0 : S a) (h1 : ∀ i, S i → g_C A W a i) (h2 : ∀ c d, S c → A c d → W d → S d) (i : Nat) : S i ↔ g_C A W a i :=
  ⟨h1 i, fun h => g_ind h h0 (fun c d _ hc e hd => h2 c d hc e hd)⟩
theorem reach_in (r0 : Nat) (W s : Int32) (x : mX) (kk : Int32 → Option Int32) : ∀ k j n acc, j + k = 8 → k < n → ∃ acc', f_X10_reach_L22 r0 W s n acc (nI j) x kk = kk acc' ∧ ∀ i, bt acc' i = true ↔ (bt acc i = true ∨ ∃ p, j ≤ p ∧ p < 8 ∧ bt s p = true ∧ bt (x.1 r0 p) i = true ∧ bt W i = true) := by
  intro k
  induction k with
  | zero =>
    intro j n acc h1 h2
    cases n with
    | zero => omega
    | succ n =>
      have hj : j = 8 := by omega
      subst hj
      refine ⟨acc, by rw [f_X10_reach_L22, if_pos (by decide)], fun i => ⟨Or.inl, ?_⟩⟩
      rintro (h | ⟨p, h1, h2, _⟩)
      · exact h
      · omega
  | succ k ih =>
    intro j n acc h1 h2
    cases n with
    | zero => omega
    | succ n =>
      rw [f_X10_reach_L22, if_neg (k8f (by omega)), nI_1]
      by_cases hs : bt s j = true
      · rw [if_neg (fun z => by rw [(b_has (by omega) s).mp z] at hs; cases hs), if_pos (in_ok (by omega) (by decide)), cl (by omega)]
        obtain ⟨acc', e, h⟩ := ih (j + 1) n (acc ||| (x.1 r0 j &&& W)) (by omega) (by omega)
        refine ⟨acc', e, fun i => ?_⟩
        rw [h, b_or, b_and]
        simp only [Bool.or_eq_true, Bool.and_eq_true]
        constructor
        · rintro ((h | h) | ⟨p, p1, p2, p3, p4, p5⟩)
          · exact Or.inl h
          · exact Or.inr ⟨j, Nat.le_refl _, by omega, hs, h.1, h.2⟩
          · exact Or.inr ⟨p, by omega, p2, p3, p4, p5⟩
        · rintro (h | ⟨p, p1, p2, p3, p4, p5⟩)
          · exact Or.inl (Or.inl h)
          · by_cases hp : p = j
            · subst hp; exact Or.inl (Or.inr ⟨p4, p5⟩)
            · exact Or.inr ⟨p, by omega, p2, p3, p4, p5⟩
      · rw [if_pos ((b_has (by omega) s).mpr (by simpa using hs))]
        obtain ⟨acc', e, h⟩ := ih (j + 1) n acc (by omega) (by omega)
        refine ⟨acc', e, fun i => ?_⟩
        rw [h]
        constructor
        · rintro (h | ⟨p, p1, p2⟩)
          · exact Or.inl h
          · exact Or.inr ⟨p, by omega, p2⟩
        · rintro (h | ⟨p, p1, p2, p3, p4⟩)
          · exact Or.inl h
          · by_cases hp : p = j
            · subst hp; exact absurd p3 hs
            · exact Or.inr ⟨p, by omega, p2, p3, p4⟩
theorem reach_out (r0 : Nat) (W : Int32) (hW : b8 W) (x : mX) (a : Nat) : ∀ k j n s, j + k = 8 → k < n → bt s a = true → (∀ i, bt s i = true → g_C (nA (x.1 r0)) (bS W) a i) → j + 1 ≤ g_n (fun i => bt s i = true) 8 → ∃ S, f_X10_reach_L9 r0 W n s (nI j) x = some S ∧ ∀ i, bt S i = true ↔ g_C (nA (x.1 r0)) (bS W) a i := by
  intro k
  induction k with
  | zero =>
    intro j n s h1 h2 h3 h4 h5
    have := g_n_bound (P := fun i => bt s i = true) 8
    omega
  | succ k ih =>
    intro j n s h1 h2 h3 h4 h5
    cases n with
    | zero => omega
    | succ n =>
      have hs8 : ∀ i, bt s i = true → i < 8 := fun i hi => hW i (g_in (h4 i hi))
      rw [f_X10_reach_L9, if_neg (k8f (by omega)), nI_1]
      obtain ⟨v, e, hv⟩ := reach_in r0 W s x (fun v1 => (if v1 = s then (some s) else (f_X10_reach_L9 r0 W n v1 (nI (j + 1)) x))) 8 0 mF s rfl (by decide)
      rw [nI_0] at e
      rw [e]
      have hmem : ∀ i, bt v i = true → g_C (nA (x.1 r0)) (bS W) a i := by
        intro i hi
        rcases (hv i).mp hi with h | ⟨p, _, p2, p3, p4, p5⟩
        · exact h4 i h
        · exact g_st (h4 p p3) ⟨p2, hW i p5, p4⟩ p5
      by_cases hvs : v = s
      · subst hvs
        refine ⟨v, by simp, fun i => ?_⟩
        refine g_closed (S := fun i => bt v i = true) h3 h4 (fun c d hc e hd => ?_) i
        exact (hv d).mpr (Or.inr ⟨c, Nat.zero_le _, e.1, hc, e.2.2, hd⟩)
      · show ∃ S, (if v = s then (some s) else (f_X10_reach_L9 r0 W n v (nI (j + 1)) x)) = some S ∧ _
        rw [if_neg hvs]
        refine ih (j + 1) n v (by omega) (by omega) ((hv a).mpr (Or.inl h3)) hmem ?_
        obtain ⟨i, hi1, hi2⟩ : ∃ i, bt v i = true ∧ ¬ bt s i = true := by
          refine Classical.byContradiction fun hc => hvs (b_eq_iff fun i => ⟨fun h => ?_, fun h => (hv i).mpr (Or.inl h)⟩)
          exact Classical.byContradiction fun hcc => hc ⟨i, h, hcc⟩
        have := g_n_lt (P := fun i => bt s i = true) (Q := fun i => bt v i = true) 8 i (hW i (g_in (hmem i hi1))) (fun c _ hc => (hv c).mpr (Or.inl hc)) hi1 hi2
        omega
theorem reach_ok (r0 : Nat) {W : Int32} (hW : b8 W) (x : mX) {a : Nat} (ha : a < 8) : ∃ S, f_X10_reach r0 (nI a) W x = some S ∧ ∀ i, bt S i = true ↔ g_C (nA (x.1 r0)) (bS W) a i := by
  unfold f_X10_reach
  have hb : ∀ i, bt (((1 : Int32) <<< (nI a &&& 31)) &&& W) i = true ↔ i = a ∧ bt W a = true := by
    intro i
    rw [b_and, b_bit (by omega)]
    simp only [Bool.and_eq_true, decide_eq_true_eq]
    constructor
    · rintro ⟨rfl, h⟩; exact ⟨rfl, h⟩
    · rintro ⟨rfl, h⟩; exact ⟨rfl, h⟩
  by_cases hWa : bt W a = true
  · refine reach_out r0 W hW x a 8 0 mF _ rfl (by decide) ((hb a).mpr ⟨rfl, hWa⟩) (fun i hi => ?_) ?_
    · have := (hb i).mp hi
      rw [this.1]
      exact g_rf hWa
    · have := g_n_pos (P := fun i => bt (((1 : Int32) <<< (nI a &&& 31)) &&& W) i = true) 8 a ha ((hb a).mpr ⟨rfl, hWa⟩)
      omega
  · have e0 : ((1 : Int32) <<< (nI a &&& 31)) &&& W = 0 := b_eq0 (fun i hi => hWa ((hb i).mp hi).2)
    rw [e0]
    refine ⟨0, ?_, fun i => ?_⟩
    · show f_X10_reach_L9 r0 W (99999 + 1) 0 0 x = some 0
      rw [f_X10_reach_L9, if_neg (by decide)]
      obtain ⟨v, e, hv⟩ := reach_in r0 W 0 x (fun v1 => (if v1 = 0 then (some 0) else (f_X10_reach_L9 r0 W 99999 v1 (0 + 1) x))) 8 0 mF 0 rfl (by decide)
      rw [nI_0] at e
      rw [e]
      have hv0 : v = 0 := b_eq0 (fun i hi => by
        rcases (hv i).mp hi with h | ⟨p, _, _, p3, _⟩
        · rw [b_0] at h; cases h
        · rw [b_0] at p3; cases p3)
      show (if v = 0 then (some 0) else _) = _
      rw [if_pos hv0]
    · rw [b_0]
      exact ⟨fun h => (by cases h), fun h => absurd h.1 hWa⟩
/-! the reference's comes -/
theorem comes_in (w : Nat) (hw : w < 3) (W s : Int32) (y : mY) (kk : Int32 → Option Int32) : ∀ k j n acc, j + k = 8 → k < n → ∃ acc', f_X11_comes_L22 (nI w) W s n acc (nI j) y kk = kk acc' ∧ ∀ i, bt acc' i = true ↔ (bt acc i = true ∨ ∃ p, j ≤ p ∧ p < 8 ∧ bt s p = true ∧ bt (y.1 293 (8 * w + p)) i = true ∧ bt W i = true) := by
  intro k
  induction k with
  | zero =>
    intro j n acc h1 h2
    cases n with
    | zero => omega
    | succ n =>
      have hj : j = 8 := by omega
      subst hj
      refine ⟨acc, by rw [f_X11_comes_L22, if_pos (by decide)], fun i => ⟨Or.inl, ?_⟩⟩
      rintro (h | ⟨p, h1, h2, _⟩)
      · exact h
      · omega
  | succ k ih =>
    intro j n acc h1 h2
    cases n with
    | zero => omega
    | succ n =>
      rw [f_X11_comes_L22, if_neg (k8f (by omega)), nI_1]
      by_cases hs : bt s j = true
      · have e8 : (8 : Int32) * nI w + nI j = nI (8 * w + j) := by
          rw [show (8 : Int32) * nI w = nI (8 * w) from pk_mul 8 w, nI_add]
        rw [if_neg (h11t (by omega) hs), e8, if_pos (in_ok (by omega) (by decide)), cl (by omega)]
        obtain ⟨acc', e, h⟩ := ih (j + 1) n (acc ||| (y.1 293 (8 * w + j) &&& W)) (by omega) (by omega)
        refine ⟨acc', e, fun i => ?_⟩
        rw [h, b_or, b_and]
        simp only [Bool.or_eq_true, Bool.and_eq_true]
        constructor
        · rintro ((h | h) | ⟨p, p1, p2, p3, p4, p5⟩)
          · exact Or.inl h
          · exact Or.inr ⟨j, Nat.le_refl _, by omega, hs, h.1, h.2⟩
          · exact Or.inr ⟨p, by omega, p2, p3, p4, p5⟩
        · rintro (h | ⟨p, p1, p2, p3, p4, p5⟩)
          · exact Or.inl (Or.inl h)
          · by_cases hp : p = j
            · subst hp; exact Or.inl (Or.inr ⟨p4, p5⟩)
            · exact Or.inr ⟨p, by omega, p2, p3, p4, p5⟩
      · rw [if_pos (h11f (by omega) hs)]
        obtain ⟨acc', e, h⟩ := ih (j + 1) n acc (by omega) (by omega)
        refine ⟨acc', e, fun i => ?_⟩
        rw [h]
        constructor
        · rintro (h | ⟨p, p1, p2⟩)
          · exact Or.inl h
          · exact Or.inr ⟨p, by omega, p2⟩
        · rintro (h | ⟨p, p1, p2, p3, p4⟩)
          · exact Or.inl h
          · by_cases hp : p = j
            · subst hp; exact absurd p3 hs
            · exact Or.inr ⟨p, by omega, p2, p3, p4⟩
theorem comes_out (w : Nat) (hw : w < 3) (W : Int32) (hW : b8 W) (y : mY) (a : Nat) : ∀ k n s b, 9 ≤ k + g_n (fun i => bt s i = true) 8 → k < n → s ≠ b → bt s a = true → (∀ i, bt s i = true → g_C (nA (fun p => y.1 293 (8 * w + p))) (bS W) a i) → ∃ S, f_X11_comes_L8 (nI w) W n s b y = some S ∧ ∀ i, bt S i = true ↔ g_C (nA (fun p => y.1 293 (8 * w + p))) (bS W) a i := by
  intro k
  induction k with
  | zero =>
    intro n s b h1
    have := g_n_bound (P := fun i => bt s i = true) 8
    omega
  | succ k ih =>
    intro n s b h1 h2 hsb h3 h4
    cases n with
    | zero => omega
    | succ n =>
      rw [f_X11_comes_L8, if_neg hsb]
      obtain ⟨v, e, hv⟩ := comes_in w hw W s y (fun v1 => f_X11_comes_L8 (nI w) W n v1 s y) 8 0 mF s rfl (by decide)
      rw [nI_0] at e
      rw [e]
      have hmem : ∀ i, bt v i = true → g_C (nA (fun p => y.1 293 (8 * w + p))) (bS W) a i := by
        intro i hi
        rcases (hv i).mp hi with h | ⟨p, _, p2, p3, p4, p5⟩
        · exact h4 i h
        · exact g_st (h4 p p3) ⟨p2, hW i p5, p4⟩ p5
      by_cases hvs : v = s
      · subst hvs
        cases n with
        | zero =>
          have := g_n_bound (P := fun i => bt v i = true) 8
          omega
        | succ n =>
          refine ⟨v, by simp [f_X11_comes_L8], fun i => ?_⟩
          refine g_closed (S := fun i => bt v i = true) h3 h4 (fun c d hc e hd => ?_) i
          exact (hv d).mpr (Or.inr ⟨c, Nat.zero_le _, e.1, hc, e.2.2, hd⟩)
      · obtain ⟨i, hi1, hi2⟩ : ∃ i, bt v i = true ∧ ¬ bt s i = true := by
          refine Classical.byContradiction fun hc => hvs (b_eq_iff fun i => ⟨fun h => ?_, fun h => (hv i).mpr (Or.inl h)⟩)
          exact Classical.byContradiction fun hcc => hc ⟨i, h, hcc⟩
        have := g_n_lt (P := fun i => bt s i = true) (Q := fun i => bt v i = true) 8 i (hW i (g_in (hmem i hi1))) (fun c _ hc => (hv c).mpr (Or.inl hc)) hi1 hi2
        exact ih n v s (by omega) (by omega) hvs ((hv a).mpr (Or.inl h3)) hmem
theorem comes_ok {w : Nat} (hw : w < 3) {W : Int32} (hW : b8 W) (y : mY) {a : Nat} (ha : a < 8) (hWa : bt W a = true) : ∃ S, f_X11_comes (nI w) (nI a) W y = some S ∧ ∀ i, bt S i = true ↔ g_C (nA (fun p => y.1 293 (8 * w + p))) (bS W) a i := by
  unfold f_X11_comes
  have hb : ∀ i, bt ((1 : Int32) <<< (nI a &&& 31)) i = true ↔ i = a := by
    intro i
    rw [b_bit (by omega)]
    simp
  refine comes_out w hw W hW y a 9 mF _ 0 (by omega) (by decide) (b_ne0 ((hb a).mpr rfl)) ((hb a).mpr rfl) (fun i hi => ?_)
  rw [(hb i).mp hi]
  exact g_rf hWa
