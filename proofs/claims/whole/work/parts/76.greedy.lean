/-! ===== grow: the picks one by one are the first that tie ===== -/
section R5
variable {A : Nat → Nat → Prop} {V : Nat → Prop} {a b : Nat} {ex ey : Nat → Nat} {P T U : Nat → Prop}
theorem am_aj (x y : Nat → Nat) (m : Nat) : am A (fun i => if i = m then a else x i) (fun i => if i = m then b else y i) (m + 1) = am (aj A a b) x y m := by
  funext p q
  apply propext
  rw [am_iff, am_iff]
  constructor
  · rintro (k | ⟨j, j1, j2⟩)
    · exact Or.inl (Or.inl k)
    · by_cases e : j = m
      · rw [if_pos e, if_pos e] at j2
        exact Or.inl (Or.inr j2)
      · rw [if_neg e, if_neg e] at j2
        exact Or.inr ⟨j, by omega, j2⟩
  · rintro ((k | k) | ⟨j, j1, j2⟩)
    · exact Or.inl k
    · exact Or.inr ⟨m, by omega, by rw [if_pos rfl, if_pos rfl]; exact k⟩
    · exact Or.inr ⟨j, by omega, by rw [if_neg (by omega), if_neg (by omega)]; exact j2⟩
/-- so many links tie -/
theorem nd_ex : ∀ k (A : Nat → Nat → Prop), g_N A V → nd A V ≤ k → ∃ m x y, m ≤ nd A V ∧ td (am A x y m) V
  | 0, A, hN, h => ⟨0, fun _ => 0, fun _ => 0, Nat.zero_le _, (nd_Z hN).mp (by omega)⟩
  | k + 1, A, hN, h => by
    by_cases c : td A V
    · exact ⟨0, fun _ => 0, fun _ => 0, Nat.zero_le _, c⟩
    · obtain ⟨a, b, ha, hb, hab, _, hn⟩ := nd_U hN c
      obtain ⟨m, x, y, m1, m2⟩ := nd_ex k (aj A a b) (aj_N hN ha hb hab) (by omega)
      exact ⟨m + 1, _, _, by omega, by rw [am_aj x y m]; exact m2⟩
/-- a link lessens the need by one at most -/
theorem nd_down (hN : g_N A V) (ha : V a) (hb : V b) (hab : a ≠ b) : nd A V ≤ nd (aj A a b) V + 1 := by
  obtain ⟨m, x, y, m1, m2⟩ := nd_ex _ (aj A a b) (aj_N hN ha hb hab) (Nat.le_refl _)
  rw [← am_aj x y m] at m2
  have := nd_L hN m2
  omega
theorem pl_0 : pl_S A ex ey P 0 = A := funext fun p => funext fun q => propext ⟨fun h => h.elim id (fun ⟨j, hj, _⟩ => absurd hj (Nat.not_lt_zero j)), Or.inl⟩
theorem pl_in {j : Nat} (h : P j) : pl_S A ex ey P (j + 1) = aj (pl_S A ex ey P j) (ex j) (ey j) := by
  funext p q
  apply propext
  constructor
  · rintro (k | ⟨i, i1, i2, i3⟩)
    · exact Or.inl (Or.inl k)
    · by_cases e : i = j
      · subst e
        exact Or.inr i3
      · exact Or.inl (Or.inr ⟨i, by omega, i2, i3⟩)
  · rintro ((k | ⟨i, i1, i2⟩) | k)
    · exact Or.inl k
    · exact Or.inr ⟨i, by omega, i2⟩
    · exact Or.inr ⟨j, by omega, h, k⟩
theorem pl_out {j : Nat} (h : ¬ P j) : pl_S A ex ey P (j + 1) = pl_S A ex ey P j := by
  funext p q
  apply propext
  constructor
  · rintro (k | ⟨i, i1, i2, i3⟩)
    · exact Or.inl k
    · have e : i ≠ j := fun e => h (e ▸ i2)
      exact Or.inr ⟨i, by omega, i2, i3⟩
  · rintro (k | ⟨i, i1, i2⟩)
    · exact Or.inl k
    · exact Or.inr ⟨i, by omega, i2⟩
theorem pl_cong {n : Nat} (h : ∀ j, j < n → (P j ↔ T j)) : pl_S A ex ey P n = pl_S A ex ey T n := by
  funext p q
  apply propext
  constructor
  · rintro (k | ⟨i, i1, i2, i3⟩)
    · exact Or.inl k
    · exact Or.inr ⟨i, i1, (h i i1).mp i2, i3⟩
  · rintro (k | ⟨i, i1, i2, i3⟩)
    · exact Or.inl k
    · exact Or.inr ⟨i, i1, (h i i1).mpr i2, i3⟩
/-- the links to pick from -/
def lk (V : Nat → Prop) (ex ey : Nat → Nat) (U : Nat → Prop) (N : Nat) : Prop := ∀ j, j < N → U j → V (ex j) ∧ V (ey j) ∧ ex j ≠ ey j
theorem pl_N (hN : g_N A V) {N : Nat} (hl : lk V ex ey U N) (hP : ∀ j, P j → U j) : ∀ n, n ≤ N → g_N (pl_S A ex ey P n) V
  | 0, _ => by rw [pl_0]; exact hN
  | n + 1, h => by
    have ih := pl_N hN hl hP n (by omega)
    by_cases c : P n
    · rw [pl_in c]
      have e := hl n (by omega) (hP n c)
      exact aj_N ih e.1 e.2.1 e.2.2
    · rw [pl_out c]; exact ih
theorem pl_down (hN : g_N A V) {N : Nat} (hl : lk V ex ey U N) (hP : ∀ j, P j → U j) (i : Nat) : ∀ n, i + n ≤ N → nd (pl_S A ex ey P i) V + g_n P i ≤ nd (pl_S A ex ey P (i + n)) V + g_n P (i + n)
  | 0, _ => Nat.le_refl _
  | n + 1, h => by
    have ih := pl_down hN hl hP i n (by omega)
    show _ ≤ nd (pl_S A ex ey P (i + n + 1)) V + g_n P (i + n + 1)
    by_cases c : P (i + n)
    · have e := hl (i + n) (by omega) (hP _ c)
      have := nd_down (pl_N (P := P) hN hl hP (i + n) (by omega)) e.1 e.2.1 e.2.2
      rw [pl_in c, g_n_step _ c]
      omega
    · rw [pl_out c, g_n_stay _ c]; exact ih
/-- picked one by one -/
def gd (A : Nat → Nat → Prop) (V : Nat → Prop) (ex ey : Nat → Nat) (U P : Nat → Prop) (N : Nat) : Prop := (∀ j, P j → U j) ∧ ∀ j, j < N → U j → (P j ↔ nd (aj (pl_S A ex ey P j) (ex j) (ey j)) V < nd (pl_S A ex ey P j) V)
theorem gd_n (hN : g_N A V) {N : Nat} (hl : lk V ex ey U N) (hg : gd A V ex ey U P N) : ∀ j, j ≤ N → nd (pl_S A ex ey P j) V + g_n P j = nd A V
  | 0, _ => by rw [pl_0]; rfl
  | j + 1, h => by
    have ih := gd_n hN hl hg j (by omega)
    by_cases c : P j
    · have e := hl j (by omega) (hg.1 j c)
      have h1 := nd_down (pl_N (P := P) hN hl hg.1 j (by omega)) e.1 e.2.1 e.2.2
      have h2 := (hg.2 j (by omega) (hg.1 j c)).mp c
      rw [pl_in c, g_n_step _ c]
      omega
    · rw [pl_out c, g_n_stay _ c]; exact ih
/-- a set T like P below i, with i, that comes as far as P's need: P has i -/
theorem gd_i (hN : g_N A V) {N : Nat} (hl : lk V ex ey U N) (hg : gd A V ex ey U P N) {i : Nat} (hi : i < N) (hU : ∀ j, T j → U j) (hT : ∀ j, j < i → (P j ↔ T j)) (ti : T i) (hn : nd (pl_S A ex ey T N) V + g_n T N ≤ nd A V) : P i := by
  refine (hg.2 i hi (hU i ti)).mpr ?_
  have h1 := pl_down (P := T) hN hl hU (i + 1) (N - (i + 1)) (by omega)
  rw [show i + 1 + (N - (i + 1)) = N by omega, pl_in ti, g_n_step _ ti, ← pl_cong hT, ← g_n_cong i hT] at h1
  have h2 := gd_n hN hl hg i (by omega)
  omega
/-- the picks tie -/
theorem gd_td (hN : g_N A V) {N : Nat} (hl : lk V ex ey U N) (hall : ∀ a b, V a → V b → a ≠ b → ¬ A a b → ∃ j, j < N ∧ U j ∧ ((ex j = a ∧ ey j = b) ∨ (ex j = b ∧ ey j = a))) (hg : gd A V ex ey U P N) : td (pl_S A ex ey P N) V ∧ g_n P N = nd A V := by
  have hNP := pl_N (P := P) hN hl hg.1 N (Nat.le_refl N)
  have k : td (pl_S A ex ey P N) V := by
    refine Classical.byContradiction fun z => ?_
    obtain ⟨a, b, ha, hb, hab, hna, hn⟩ := nd_U hNP z
    obtain ⟨i, i1, iU, i2⟩ := hall a b ha hb hab (fun k => hna (Or.inl k))
    have np : ¬ P i := fun k => hna (Or.inr ⟨i, i1, k, by rcases i2 with ⟨e1, e2⟩ | ⟨e1, e2⟩
                                                          · exact Or.inl ⟨e1.symm, e2.symm⟩
                                                          · exact Or.inr ⟨e2.symm, e1.symm⟩⟩)
    have en : aj (pl_S A ex ey P N) a b = aj (pl_S A ex ey P N) (ex i) (ey i) := by
      rcases i2 with ⟨e1, e2⟩ | ⟨e1, e2⟩
      · rw [e1, e2]
      · rw [e1, e2, aj_cm]
    have et : pl_S A ex ey (fun j => P j ∨ j = i) N = aj (pl_S A ex ey P N) (ex i) (ey i) := by
      funext p q
      apply propext
      constructor
      · rintro (k | ⟨j, j1, j2 | j2, j3⟩)
        · exact Or.inl (Or.inl k)
        · exact Or.inl (Or.inr ⟨j, j1, j2, j3⟩)
        · subst j2; exact Or.inr j3
      · rintro ((k | ⟨j, j1, j2, j3⟩) | k)
        · exact Or.inl k
        · exact Or.inr ⟨j, j1, Or.inl j2, j3⟩
        · exact Or.inr ⟨i, i1, Or.inr rfl, k⟩
    have s := g_n_split (P := fun j => P j ∨ j = i) (Q := P) N
    have s1 : g_n (fun j => (P j ∨ j = i) ∧ P j) N ≤ g_n P N := g_n_le N (fun j _ h => h.2)
    have s2 : g_n (fun j => (P j ∨ j = i) ∧ ¬ P j) N ≤ 1 := g_n_atmost N (fun c d _ _ hc hd => (hc.1.resolve_left hc.2).trans (hd.1.resolve_left hd.2).symm)
    have gn := gd_n hN hl hg N (Nat.le_refl N)
    refine np (gd_i (T := fun j => P j ∨ j = i) hN hl hg i1 (fun j hj => hj.elim (hg.1 j) (fun e => by rw [e]; exact iU)) (fun j hj => ⟨Or.inl, fun h => h.resolve_right (by omega)⟩) (Or.inr rfl) ?_)
    rw [et, ← en]
    omega
  have gn := gd_n hN hl hg N (Nat.le_refl N)
  have z := (nd_Z hNP).mpr k
  exact ⟨k, by omega⟩
/-- no set of so many that ties comes before -/
theorem gd_first (hN : g_N A V) {N : Nat} (hl : lk V ex ey U N) (hg : gd A V ex ey U P N) (hU : ∀ j, T j → U j) (hT : td (pl_S A ex ey T N) V) (hn : g_n T N = nd A V) {i : Nat} (hi : i < N) (hb : ∀ j, j < i → (P j ↔ T j)) (ti : T i) : P i := by
  have z := (nd_Z (pl_N (P := T) hN hl hU N (Nat.le_refl N))).mpr hT
  exact gd_i hN hl hg hi hU hb ti (by omega)
end R5
