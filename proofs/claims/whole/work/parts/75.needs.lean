/-! ===== need is the fewest links that tie ===== -/
section R3
variable {A : Nat → Nat → Prop} {V : Nat → Prop}
/-- tied: less than two posts, or tight -/
def td (A : Nat → Nat → Prop) (V : Nat → Prop) : Prop := g_n V 8 < 2 ∨ g_T A V
theorem cn_1 (hN : g_N A V) (h : g_n (g_L A V) 8 ≤ 1) : cn A V := by
  have hA := hN.1
  intro x y hx hy
  obtain ⟨i, i1, i2, _⟩ := g_L_ex (A := A) hx
  obtain ⟨j, j1, j2, _⟩ := g_L_ex (A := A) hy
  have e : i = j := Classical.byContradiction fun z => by
    have := g_n_two (P := g_L A V) 8 i j z (hN.2.2 i i1.1) (hN.2.2 j j1.1) i1 j1
    omega
  subst e
  exact g_tr i2 (g_sy hA j2)
theorem cn_n (hN : g_N A V) (h : cn A V) : g_n (g_L A V) 8 ≤ 1 := g_n_atmost 8 (fun i j _ _ hi hj => g_L_un hN.1 hi hj (h i j hi.1 hj.1))
theorem pieces_n : g_n (g_L A V) 8 ≤ g_n V 8 := g_n_le 8 (fun _ _ h => h.1)
/-- all come together and no cut: tight -/
theorem td_of (hN : g_N A V) (hc : cn A V) (h2 : 2 ≤ g_n V 8) (hk : ∀ p, ¬ g_K A V p) : g_T A V := by
  obtain ⟨a, b, _, _, a1, b1, hab⟩ := g_n_2.mp h2
  refine ⟨⟨a, b, a1, b1, hab⟩, fun x c d hcv hdv hcx hdx => ?_⟩
  by_cases hx : V x
  · exact Classical.byContradiction fun z => hk x (cn_cut hN hc hx hcv hdv hcx hdx z)
  · exact g_mo (hc c d hcv hdv) (fun e he => ⟨he, fun z => hx (z ▸ he)⟩)
theorem td_cut (hT : g_T A V) (p : Nat) : ¬ g_K A V p := fun ⟨_, u, v, _, _, hu, hv, hup, hvp, hno⟩ => hno (hT.2 p u v hu hv hup hvp)
/-- with two posts there is no cut -/
theorem cut_2 (h : g_n V 8 ≤ 2) (hN : g_N A V) (p : Nat) : ¬ g_K A V p := fun ⟨hp, u, v, _, _, hu, hv, hup, hvp, hno⟩ => by
  have huv : u ≠ v := fun e => hno (by rw [← e]; exact g_rf ⟨hu, hup⟩)
  have := g_n_3 (P := V) (n := 8) (Ne.symm hup) (Ne.symm hvp) huv (hN.2.2 p hp) (hN.2.2 u hu) (hN.2.2 v hv) hp hu hv
  omega
theorem td_2 (hN : g_N A V) (h : g_n V 8 ≤ 2) : td A V ↔ g_n (g_L A V) 8 ≤ 1 := by
  constructor
  · rintro (k | k)
    · have := pieces_n (A := A) (V := V)
      omega
    · exact cn_n hN (fun x y hx hy => g_T_conn k hx hy)
  · intro k
    by_cases c : g_n V 8 < 2
    · exact Or.inl c
    · exact Or.inr (td_of hN (cn_1 hN k) (by omega) (cut_2 h hN))
/-- U: some link lessens the need -/
theorem nd_U (hN : g_N A V) (h : ¬ td A V) : ∃ a b, V a ∧ V b ∧ a ≠ b ∧ ¬ A a b ∧ nd (aj A a b) V < nd A V := by
  have hA := hN.1
  have new : ∀ a b, V a → V b → a ≠ b → nd (aj A a b) V < nd A V → ∃ a b, V a ∧ V b ∧ a ≠ b ∧ ¬ A a b ∧ nd (aj A a b) V < nd A V := fun a b ha hb hab hn => by
    refine ⟨a, b, ha, hb, hab, fun k => ?_, hn⟩
    have e : aj A a b = A := funext fun p => funext fun q => propext ⟨fun z => by
      rcases z with z | ⟨rfl, rfl⟩ | ⟨rfl, rfl⟩
      · exact z
      · exact k
      · exact hA _ _ k, Or.inl⟩
    rw [e] at hn
    omega
  by_cases h3 : 2 < g_n V 8
  · by_cases hd : 2 ≤ g_n (g_L A V) 8
    · exact nd_U1 hN h3 hd
    · have hc := cn_1 hN (by omega)
      obtain ⟨p, hp⟩ : ∃ p, g_K A V p := Classical.byContradiction fun z => h (Or.inr (td_of hN hc (by omega) (fun p hp => z ⟨p, hp⟩)))
      obtain ⟨a, b, ha, hb, hab, hn⟩ := nd_U2 hN hc h3 hp
      exact new a b ha hb hab hn
  · have h1 : ¬ g_n (g_L A V) 8 ≤ 1 := fun k => h ((td_2 hN (by omega)).mpr k)
    obtain ⟨a, b, _, _, a1, b1, hab⟩ := g_n_2.mp (show 2 ≤ g_n (g_L A V) 8 by omega)
    have lt := aj_lt hA hN.2.2 a1.1 b1.1 (fun k => hab (g_L_un hA a1 b1 k))
    refine new a b a1.1 b1.1 hab ?_
    unfold nd
    rw [if_pos (by omega), if_pos (by omega)]
    omega
/-- Z: no need: tied -/
theorem nd_Z (hN : g_N A V) : nd A V = 0 ↔ td A V := by
  constructor
  · intro h
    refine Classical.byContradiction fun z => ?_
    obtain ⟨a, b, _, _, _, _, hn⟩ := nd_U hN z
    omega
  · intro h
    by_cases h3 : 2 < g_n V 8
    · rcases h with h | h
      · omega
      · have := nd_low hN (x := fun _ => 0) (y := fun _ => 0) (m := 0) h3 h
        omega
    · have := (td_2 hN (by omega)).mp h
      unfold nd
      rw [if_pos (by omega)]
      omega
/-- L: m links that tie are no fewer than the need -/
theorem nd_L (hN : g_N A V) {x y : Nat → Nat} {m : Nat} (h : td (am A x y m) V) : nd A V ≤ m := by
  by_cases h3 : 2 < g_n V 8
  · rcases h with h | h
    · omega
    · exact nd_low hN h3 h
  · by_cases m0 : m = 0
    · subst m0
      have := (nd_Z hN).mpr h
      omega
    · have := pieces_n (A := A) (V := V)
      unfold nd
      rw [if_pos (by omega)]
      omega
end R3
/-! the links that may be picked: e j = (ex j, ey j), j < N; a set of them laid on the net -/
section R4
variable {A : Nat → Nat → Prop} {V : Nat → Prop}
def pl_S (A : Nat → Nat → Prop) (ex ey : Nat → Nat) (S : Nat → Prop) (N : Nat) : Nat → Nat → Prop := fun p q => A p q ∨ ∃ j, j < N ∧ S j ∧ ((p = ex j ∧ q = ey j) ∨ (p = ey j ∧ q = ex j))
theorem pl_am (ex ey : Nat → Nat) (S : Nat → Prop) : ∀ N, ∃ x y, am A x y (g_n S N) = pl_S A ex ey S N
  | 0 => ⟨ex, ey, funext fun p => funext fun q => propext ⟨Or.inl, fun h => h.elim id (fun ⟨j, hj, _⟩ => absurd hj (Nat.not_lt_zero j))⟩⟩
  | N + 1 => by
    obtain ⟨x, y, h⟩ := pl_am ex ey S N
    by_cases c : S N
    · refine ⟨fun i => if i = g_n S N then ex N else x i, fun i => if i = g_n S N then ey N else y i, ?_⟩
      rw [g_n_step N c]
      funext p q
      apply propext
      rw [am_iff]
      have hh : ∀ p q, am A x y (g_n S N) p q ↔ pl_S A ex ey S N p q := fun p q => by rw [h]
      have hpq := hh p q
      rw [am_iff] at hpq
      constructor
      · rintro (k | ⟨j, j1, j2⟩)
        · exact Or.inl k
        · by_cases e : j = g_n S N
          · rw [if_pos e, if_pos e] at j2
            exact Or.inr ⟨N, by omega, c, j2⟩
          · rw [if_neg e, if_neg e] at j2
            rcases hpq.mp (Or.inr ⟨j, by omega, j2⟩) with k | ⟨i, i1, i2⟩
            · exact Or.inl k
            · exact Or.inr ⟨i, by omega, i2⟩
      · rintro (k | ⟨j, j1, j2, j3⟩)
        · exact Or.inl k
        · by_cases e : j = N
          · subst e
            exact Or.inr ⟨g_n S j, by omega, by rw [if_pos rfl, if_pos rfl]; exact j3⟩
          · rcases hpq.mpr (Or.inr ⟨j, by omega, j2, j3⟩) with k | ⟨i, i1, i2⟩
            · exact Or.inl k
            · exact Or.inr ⟨i, by omega, by rw [if_neg (by omega), if_neg (by omega)]; exact i2⟩
    · refine ⟨x, y, ?_⟩
      rw [g_n_stay N c, h]
      funext p q
      apply propext
      constructor
      · rintro (k | ⟨j, j1, j2⟩)
        · exact Or.inl k
        · exact Or.inr ⟨j, by omega, j2⟩
      · rintro (k | ⟨j, j1, j2, j3⟩)
        · exact Or.inl k
        · have e : j ≠ N := fun e => c (e ▸ j2)
          exact Or.inr ⟨j, by omega, j2, j3⟩
/-- a set that ties is no smaller than the need -/
theorem pl_L (hN : g_N A V) {ex ey : Nat → Nat} {S : Nat → Prop} {N : Nat} (h : td (pl_S A ex ey S N) V) : nd A V ≤ g_n S N := by
  obtain ⟨x, y, e⟩ := pl_am (A := A) ex ey S N
  rw [← e] at h
  exact nd_L hN h
end R4
