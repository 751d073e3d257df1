/-! ===== the next row ===== -/
section O2
variable {B : Nat → Prop} {h t m i j : Nat} {f g : Nat → Nat}
/-- where the k-th of the next row stood -/
def nx_p (m i j k : Nat) : Nat := if i < k ∧ k + 1 < m then (if i + (m - 1) - k = j then i else i + (m - 1) - k) else (if k = i then j else k)
def nx_q (m i j k : Nat) : Nat := if k = j then i else if k = i then i + (m - 1) - j else if i < k ∧ k + 1 < m then i + (m - 1) - k else k
theorem nx_p_lt (hij : i < j) (hj : j + 1 < m) {k : Nat} (hk : k < m) : nx_p m i j k < m := by
  unfold nx_p
  split
  · split <;> omega
  · split <;> omega
theorem nx_p_q (hij : i < j) (hj : j + 1 < m) {k : Nat} (hk : k < m) : nx_q m i j k < m ∧ nx_p m i j (nx_q m i j k) = k := by
  unfold nx_q
  by_cases c1 : k = j
  · rw [if_pos c1]
    unfold nx_p
    rw [if_neg (by omega), if_pos rfl]
    exact ⟨by omega, c1.symm⟩
  · rw [if_neg c1]
    by_cases c2 : k = i
    · rw [if_pos c2]
      unfold nx_p
      rw [if_pos (by omega), if_pos (by omega)]
      exact ⟨by omega, c2.symm⟩
    · rw [if_neg c2]
      by_cases c3 : i < k ∧ k + 1 < m
      · rw [if_pos c3]
        unfold nx_p
        rw [if_pos (by omega), if_neg (by omega)]
        exact ⟨by omega, by omega⟩
      · rw [if_neg c3]
        unfold nx_p
        rw [if_neg c3, if_neg c2]
        exact ⟨hk, rfl⟩
theorem nx_p_inj (hij : i < j) (hj : j + 1 < m) {k l : Nat} (hk : k < m) (hl : l < m) (e : nx_p m i j k = nx_p m i j l) : k = l := by
  unfold nx_p at e
  split at e
  · split at e
    · split at e
      · split at e <;> omega
      · split at e <;> omega
    · split at e
      · split at e <;> omega
      · split at e <;> omega
  · split at e
    · split at e
      · split at e <;> omega
      · split at e <;> omega
    · split at e
      · split at e <;> omega
      · split at e <;> omega
theorem nx_r (h1 : od_r B h t m f) (hi : 0 < i) (hij : i < j) (hj : j + 1 < m) : od_r B h t m (fun k => f (nx_p m i j k)) := by
  obtain ⟨r1, r2, r3, r4, r5, r6⟩ := h1
  refine ⟨r1, ?_, ?_, fun k hk => r4 _ (nx_p_lt hij hj hk), fun k l hk hl e => nx_p_inj hij hj hk hl (r5 _ _ (nx_p_lt hij hj hk) (nx_p_lt hij hj hl) e), fun c hc => ?_⟩
  · show f (nx_p m i j 0) = h
    unfold nx_p
    rw [if_neg (by omega), if_neg (by omega)]
    exact r2
  · show f (nx_p m i j (m - 1)) = t
    unfold nx_p
    rw [if_neg (by omega), if_neg (by omega)]
    exact r3
  · obtain ⟨k, k1, k2⟩ := r6 c hc
    have := nx_p_q hij hj k1
    exact ⟨nx_q m i j k, this.1, by show f (nx_p m i j (nx_q m i j k)) = c; rw [this.2]; exact k2⟩
theorem lx_asc (h1 : od_r B h t m f) (h2 : od_r B h t m g) (he : ∀ k, k ≤ i → f k = g k) (ha : ∀ a b, i < a → a < b → b + 1 < m → f a < f b) : lx m f g := by
  by_cases hall : ∀ k, k < m → f k = g k
  · exact Or.inl hall
  · have : ∃ e, e < m ∧ f e ≠ g e ∧ ∀ k, k < e → f k = g k := by
      obtain ⟨e, he⟩ := Classical.not_forall.mp hall
      have he1 : e < m := Classical.byContradiction fun z => he (fun k => absurd k z)
      have he2 : f e ≠ g e := fun z => he (fun _ => z)
      clear he
      induction e using Nat.strongRecOn with
      | _ e ih =>
        by_cases hq : ∃ k, k < e ∧ f k ≠ g k
        · obtain ⟨k, k1, k2⟩ := hq
          exact ih k k1 (by omega) k2
        · exact ⟨e, he1, he2, fun k hk => Classical.byContradiction fun z => hq ⟨k, hk, z⟩⟩
    obtain ⟨e, e1, e2, e3⟩ := this
    have hei : i < e := Classical.byContradiction fun z => e2 (he e (by omega))
    have hem : e ≠ m - 1 := fun z => e2 (by rw [z, h1.2.2.1, h2.2.2.1])
    obtain ⟨k, k1, k2, k3⟩ := od_rest h1 h2 e1 e3
    have hke : k ≠ e := fun z => e2 (z ▸ k3)
    have hkm : k ≠ m - 1 := fun z => by
      have := h2.2.2.2.2.1 e (m - 1) e1 (by omega) (by rw [← k3, z, h1.2.2.1, h2.2.2.1])
      exact hem this
    exact Or.inr ⟨e, e1, e3, by rw [← k3]; exact ha e k hei (by omega) (by omega)⟩
/-- a row ahead of another has an ascent -/
theorem nx_asc (h1 : od_r B h t m f) (h2 : od_r B h t m g) {d : Nat} (hd : d < m) (he : ∀ k, k < d → f k = g k) (hlt : f d < g d) : 0 < d ∧ d + 1 < m ∧ ∃ k, d < k ∧ k + 1 < m ∧ f k = g d := by
  have hd0 : d ≠ 0 := fun z => by rw [z, h1.2.1, h2.2.1] at hlt; omega
  have hdm : d ≠ m - 1 := fun z => by rw [z, h1.2.2.1, h2.2.2.1] at hlt; omega
  obtain ⟨k, k1, k2, k3⟩ := od_rest h1 h2 hd he
  have hkd : k ≠ d := fun z => by rw [z] at k3; omega
  have hkm : k ≠ m - 1 := fun z => by
    have := h2.2.2.2.2.1 d (m - 1) hd (by omega) (by rw [← k3, z, h1.2.2.1, h2.2.2.1])
    exact hdm this
  exact ⟨by omega, by omega, k, by omega, by omega, k3⟩
theorem nx_desc {i : Nat} (hdesc : ∀ k, i < k → k + 2 < m → f (k + 1) < f k) {a : Nat} (ha : i < a) : ∀ b, a < b → b + 1 < m → f b < f a
  | 0, h1, _ => by omega
  | b + 1, h1, h2 => by
    have s := hdesc b (by omega) (by omega)
    by_cases e : a = b
    · subst e; exact s
    · have := nx_desc hdesc ha b (by omega) (by omega)
      omega
theorem g_max {P : Nat → Prop} : ∀ {N : Nat}, (∃ a, a < N ∧ P a) → ∃ i, i < N ∧ P i ∧ ∀ k, i < k → k < N → ¬ P k
  | 0, h => by obtain ⟨a, ha, _⟩ := h; omega
  | N + 1, h => by
    by_cases hN : P N
    · exact ⟨N, by omega, hN, fun k h1 h2 => by omega⟩
    · obtain ⟨a, a1, a2⟩ := h
      have : a ≠ N := fun e => hN (e ▸ a2)
      obtain ⟨i, i1, i2, i3⟩ := g_max (P := P) (N := N) ⟨a, by omega, a2⟩
      refine ⟨i, by omega, i2, fun k h1 h2 => ?_⟩
      by_cases e : k = N
      · subst e; exact hN
      · exact i3 k h1 (by omega)
/-- the last ascent of a row that isn't the last -/
theorem nx_i_ex (h1 : od_r B h t m f) (h2 : od_r B h t m g) {d : Nat} (hd : d < m) (he : ∀ k, k < d → f k = g k) (hlt : f d < g d) : ∃ i, 0 < i ∧ i + 2 < m ∧ f i < f (i + 1) ∧ ∀ k, i < k → k + 2 < m → f (k + 1) < f k := by
  obtain ⟨d1, d2, k, k1, k2, k3⟩ := nx_asc h1 h2 hd he hlt
  have inj : ∀ k, k + 2 < m → f k ≠ f (k + 1) := fun k hk e => by have := h1.2.2.2.2.1 k (k + 1) (by omega) (by omega) e; omega
  have ex : ∃ a, a < m - 2 ∧ (0 < a ∧ f a < f (a + 1)) := by
    refine Classical.byContradiction fun hc => ?_
    have := nx_desc (f := f) (m := m) (i := d - 1) (fun k hk1 hk2 => by
      have hne := inj k hk2
      have : ¬ f k < f (k + 1) := fun z => hc ⟨k, by omega, by omega, z⟩
      omega) (a := d) (by omega) k k1 k2
    omega
  obtain ⟨i, i1, i2, i3⟩ := g_max ex
  refine ⟨i, i2.1, by omega, i2.2, fun k hk1 hk2 => ?_⟩
  have hne := inj k hk2
  have : ¬ f k < f (k + 1) := fun z => i3 k hk1 (by omega) ⟨by omega, z⟩
  omega
/-- the last one behind it that is greater -/
theorem nx_j_ex (h1 : od_r B h t m f) (hi : i + 2 < m) (ha : f i < f (i + 1)) : ∃ j, i < j ∧ j + 1 < m ∧ f i < f j ∧ ∀ k, j < k → k + 1 < m → f k < f i := by
  obtain ⟨j, j1, j2, j3⟩ := g_max (P := fun j => i < j ∧ f i < f j) (N := m - 1) ⟨i + 1, by omega, by omega, ha⟩
  refine ⟨j, j2.1, by omega, j2.2, fun k hk1 hk2 => ?_⟩
  have hne : f k ≠ f i := fun e => by have := h1.2.2.2.2.1 k i (by omega) (by omega) e; omega
  have : ¬ f i < f k := fun z => j3 k hk1 (by omega) ⟨by omega, z⟩
  omega
/-- what is behind a row is the next row, or behind it -/
theorem nx_next (h1 : od_r B h t m f) (hi : 0 < i) (hij : i < j) (hj : j + 1 < m) (hdesc : ∀ k, i < k → k + 2 < m → f (k + 1) < f k) (hj1 : f i < f j) (hj2 : ∀ k, j < k → k + 1 < m → f k < f i) (h2 : od_r B h t m g) {d : Nat} (hd : d < m) (he : ∀ k, k < d → f k = g k) (hlt : f d < g d) : lx m (fun k => f (nx_p m i j k)) g := by
  obtain ⟨d1, d2, k, k1, k2, k3⟩ := nx_asc h1 h2 hd he hlt
  have low : ∀ e, e < i → nx_p m i j e = e := fun e hei => by
    unfold nx_p
    rw [if_neg (by omega), if_neg (by omega)]
  have at_i : nx_p m i j i = j := by
    unfold nx_p
    rw [if_neg (by omega), if_pos rfl]
  rcases Nat.lt_trichotomy d i with c | c | c
  · refine Or.inr ⟨d, hd, fun e hed => ?_, ?_⟩
    · show f (nx_p m i j e) = g e
      rw [low e (by omega)]; exact he e hed
    · show f (nx_p m i j d) < g d
      rw [low d c]; exact hlt
  · subst c
    have hkj : k ≤ j := Classical.byContradiction fun z => by have := hj2 k (by omega) k2; omega
    by_cases e : k = j
    · subst e
      refine lx_asc (i := d) (nx_r h1 hi hij hj) h2 (fun e hed => ?_) (fun a b hia hab hb => ?_)
      · show f (nx_p m d k e) = g e
        by_cases e' : e = d
        · subst e'; rw [at_i]; exact k3
        · rw [low e (by omega)]; exact he e (by omega)
      · show f (nx_p m d k a) < f (nx_p m d k b)
        unfold nx_p
        rw [if_pos (show d < a ∧ a + 1 < m by omega), if_pos (show d < b ∧ b + 1 < m by omega)]
        by_cases ca : d + (m - 1) - a = k
        · rw [if_pos ca, if_neg (by omega)]
          have := nx_desc hdesc (a := d + (m - 1) - b) (by omega) k (by omega) (by omega)
          omega
        · rw [if_neg ca]
          by_cases cb : d + (m - 1) - b = k
          · rw [if_pos cb]
            exact hj2 _ (by omega) (by omega)
          · rw [if_neg cb]
            exact nx_desc hdesc (by omega) _ (by omega) (by omega)
    · refine Or.inr ⟨d, hd, fun e hed => ?_, ?_⟩
      · show f (nx_p m d j e) = g e
        rw [low e (by omega)]; exact he e hed
      · show f (nx_p m d j d) < g d
        rw [at_i, ← k3]
        exact nx_desc hdesc (by omega) j (by omega) hj
  · exfalso
    have := nx_desc hdesc c k k1 k2
    omega
/-- a number for a row, the greater the later -/
noncomputable def nx_v (M : Nat → Prop) (f : Nat → Nat) : Nat → Nat
  | 0 => 0
  | k + 1 => nx_v M f k * 6 + g_n M (f (k + 1))
theorem nx_v_lt {M : Nat → Prop} : ∀ k, (∀ i, 0 < i → i ≤ k → g_n M (f i) < 6) → nx_v M f k < 6 ^ k
  | 0, _ => by show 0 < 1; omega
  | k + 1, h => by
    have ih := nx_v_lt k (fun i h1 h2 => h i h1 (by omega))
    have hd := h (k + 1) (by omega) (by omega)
    show nx_v M f k * 6 + g_n M (f (k + 1)) < 6 ^ (k + 1)
    rw [Nat.pow_succ]
    omega
theorem nx_v_same {M : Nat → Prop} : ∀ k, (∀ i, 0 < i → i ≤ k → f i = g i) → nx_v M f k = nx_v M g k
  | 0, _ => rfl
  | k + 1, h => by
    show nx_v M f k * 6 + g_n M (f (k + 1)) = nx_v M g k * 6 + g_n M (g (k + 1))
    rw [nx_v_same k (fun i h1 h2 => h i h1 (by omega)), h (k + 1) (by omega) (by omega)]
theorem nx_v_mono {M : Nat → Prop} {i : Nat} (hi : 0 < i) (hs : ∀ k, k < i → f k = g k) (hlt : g_n M (f i) < g_n M (g i)) : ∀ k, i ≤ k → (∀ i, 0 < i → i ≤ k → g_n M (f i) < 6) → nx_v M f k < nx_v M g k
  | 0, h, _ => by omega
  | k + 1, h, hd => by
    show nx_v M f k * 6 + g_n M (f (k + 1)) < nx_v M g k * 6 + g_n M (g (k + 1))
    by_cases e : i = k + 1
    · rw [nx_v_same k (fun l h1 h2 => hs l (by omega)), ← e]
      omega
    · have ih := nx_v_mono hi hs hlt k (by omega) (fun l h1 h2 => hd l h1 (by omega))
      have := hd (k + 1) (by omega) (by omega)
      omega
end O2
