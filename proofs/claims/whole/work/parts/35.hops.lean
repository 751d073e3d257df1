/-! ===== hops ===== -/
section H1
variable {A : Nat → Nat → Prop} {V B : Nat → Prop} {h t m v r : Nat} {f g : Nat → Nat}
/-- the red hop of v, by an order f of m posts with the last t -/
def hp_r (A : Nat → Nat → Prop) (m : Nat) (f : Nat → Nat) (t v r : Nat) : Prop := ∃ i, i < m ∧ A v (f i) ∧ (v = t → 2 < m → 0 < i) ∧ (∀ j, j < i → A v (f j) → v = t ∧ 2 < m ∧ j = 0) ∧ r = f i
/-- the blue one -/
def hp_b (A : Nat → Nat → Prop) (m : Nat) (f : Nat → Nat) (h t v r : Nat) : Prop := (v = t ∧ r = h) ∨ (v ≠ t ∧ ∃ i, i < m ∧ A v (f i) ∧ (∀ j, i < j → j < m → ¬ A v (f j)) ∧ r = f i)
theorem hp_r_un (he : ∀ i, i < m → f i = g i) {r r' : Nat} (h1 : hp_r A m f t v r) (h2 : hp_r A m g t v r') : r = r' := by
  obtain ⟨i, i1, i2, i3, i4, rfl⟩ := h1
  obtain ⟨j, j1, j2, j3, j4, rfl⟩ := h2
  rw [← he j j1] at j2 ⊢
  rcases Nat.lt_trichotomy i j with e | e | e
  · obtain ⟨a, b, c⟩ := j4 i e (by rw [← he i i1]; exact i2)
    have := i3 a b
    omega
  · rw [e]
  · obtain ⟨a, b, c⟩ := i4 j e j2
    have := j3 a b
    omega
theorem hp_b_un (he : ∀ i, i < m → f i = g i) {r r' : Nat} (h1 : hp_b A m f h t v r) (h2 : hp_b A m g h t v r') : r = r' := by
  rcases h1 with ⟨a1, a2⟩ | ⟨a1, i, i1, i2, i3, i4⟩
  · rcases h2 with ⟨b1, b2⟩ | ⟨b1, _⟩
    · rw [a2, b2]
    · exact absurd a1 b1
  · rcases h2 with ⟨b1, _⟩ | ⟨b1, j, j1, j2, j3, j4⟩
    · exact absurd b1 a1
    · rw [← he j j1] at j2 j4
      rcases Nat.lt_trichotomy i j with e | e | e
      · exact absurd j2 (i3 j e j1)
      · rw [i4, j4, e]
      · exact absurd (by rw [← he i i1]; exact i2) (j3 i e i1)
/-- one of an order but its head: its place -/
theorem od_at (hr : od_r B h t m f) (hv : B v) (hvh : v ≠ h) : ∃ i, 0 < i ∧ i < m ∧ f i = v := by
  obtain ⟨i, i1, i2⟩ := hr.2.2.2.2.2 v hv
  refine ⟨i, ?_, i1, i2⟩
  rcases Nat.eq_zero_or_pos i with e | e
  · rw [e, hr.2.1] at i2; exact absurd i2.symm hvh
  · exact e
/-- the red hop goes back -/
theorem hp_r_ex (hA : ∀ a b, A a b → A b a) (hAn : ∀ a b, A a b → a ≠ b) (hT : g_T A B) (hr : od_r B h t m f) (hk : od_k A m f) (hlt : A h t) {i0 : Nat} (hi0 : 0 < i0) (hi1 : i0 < m) : ∃ i, i < i0 ∧ hp_r A m f t (f i0) (f i) := by
  obtain ⟨r1, r2, r3, r4, r5, r6⟩ := id hr
  by_cases hvt : f i0 = t
  · have e0 : i0 = m - 1 := r5 i0 (m - 1) hi1 (by omega) (hvt.trans r3.symm)
    by_cases h2 : 2 < m
    · have hht : h ≠ t := fun e => by have := r5 0 (m - 1) (by omega) (by omega) (by rw [r2, r3]; exact e); omega
      have hw : f 1 ≠ t := fun e => by have := r5 1 (m - 1) (by omega) (by omega) (e.trans r3.symm); omega
      have hwh : f 1 ≠ h := fun e => by have := r5 1 0 (by omega) (by omega) (e.trans r2.symm); omega
      have ht : B t := by rw [← r3]; exact r4 _ (by omega)
      obtain ⟨u, u1, u2⟩ := g_first (hT.2 h t (f 1) ht (r4 1 (by omega)) (Ne.symm hht) hwh) hw
      obtain ⟨k, k1, k2, k3⟩ := od_at hr u2.1.1.1 u2.1.1.2
      obtain ⟨i, ⟨i1, i2, i3⟩, i4⟩ := g_min (P := fun i => 0 < i ∧ i < m ∧ A t (f i)) (p := k) ⟨k1, k2, by rw [k3]; exact u1⟩
      have hne : i ≠ m - 1 := fun e => hAn _ _ i3 (by rw [e, r3])
      refine ⟨i, by omega, i, i2, by rw [hvt]; exact i3, fun _ _ => i1, fun j hj hAj => ⟨hvt, h2, ?_⟩, rfl⟩
      rw [hvt] at hAj
      exact Classical.byContradiction fun z => i4 j hj ⟨by omega, by omega, hAj⟩
    · have hm2 : m = 2 := by omega
      refine ⟨0, by omega, 0, by omega, ?_, fun _ z => absurd z h2, fun j hj => by omega, rfl⟩
      rw [hvt, r2]
      exact hA _ _ hlt
  · have hi2 : i0 + 1 < m := by
      have : i0 ≠ m - 1 := fun e => hvt (by rw [e, r3])
      omega
    obtain ⟨j, j1, j2⟩ := (hk i0 hi0 hi2).1
    obtain ⟨i, ⟨i1, i2⟩, i3⟩ := g_min (P := fun i => i < i0 ∧ A (f i0) (f i)) (p := j) ⟨j1, j2⟩
    exact ⟨i, i1, i, by omega, i2, fun z => absurd z hvt, fun j hj hAj => absurd ⟨by omega, hAj⟩ (i3 j hj), rfl⟩
/-- the blue one ahead, or from the last to the head -/
theorem hp_b_ex (hr : od_r B h t m f) (hk : od_k A m f) {i0 : Nat} (hi0 : 0 < i0) (hi1 : i0 < m) : (i0 + 1 = m ∧ hp_b A m f h t (f i0) h) ∨ (i0 + 1 < m ∧ ∃ i, i0 < i ∧ i < m ∧ hp_b A m f h t (f i0) (f i)) := by
  obtain ⟨r1, r2, r3, r4, r5, r6⟩ := id hr
  by_cases hvt : f i0 = t
  · have e0 : i0 = m - 1 := r5 i0 (m - 1) hi1 (by omega) (hvt.trans r3.symm)
    exact Or.inl ⟨by omega, Or.inl ⟨hvt, rfl⟩⟩
  · have hi2 : i0 + 1 < m := by
      have : i0 ≠ m - 1 := fun e => hvt (by rw [e, r3])
      omega
    obtain ⟨j, j1, j2, j3⟩ := (hk i0 hi0 hi2).2
    obtain ⟨i, i1, i2, i3⟩ := g_max (P := fun i => A (f i0) (f i)) (N := m) ⟨j, j2, j3⟩
    have hij : j ≤ i := Classical.byContradiction fun z => i3 j (by omega) j2 j3
    exact Or.inr ⟨hi2, i, by omega, i1, Or.inr ⟨hvt, i, i1, i2, fun k hk1 hk2 => i3 k hk1 hk2, rfl⟩⟩
/-! the class's hops -/
theorem redHop_L {x : mX} (hn : ∀ p, p < 8 → ∀ q, bt (x.1 229 p) q = true ↔ A p q) (hR : ar_R x m f) (hm : m ≤ 8) (hf : ∀ i, i < m → f i < 8) (hv : v < 8) {s i : Nat} (hs : s ≤ i) (hi : i < m) (ha : A v (f i)) (hno : ∀ j, s ≤ j → j < i → ¬ A v (f j)) : f_X7_redHop_L32 (nI v) mF (nI s) x = some (nI (f i)) := by
  refine lp_up i (fun n b (_ : Unit) => f_X7_redHop_L32 (nI v) n b x) (fun j _ => s ≤ j) (fun o => o = some (nI (f i))) ?_ ?_ mF s () (Nat.lt_of_lt_of_le (show i < mF from Nat.lt_of_lt_of_le hi (Nat.le_trans hm (by decide))) (by omega)) hs (Nat.le_refl _)
  · intro n _ _
    show f_X7_redHop_L32 (nI v) (n + 1) (nI i) x = _
    rw [f_X7_redHop_L32, hR.1, if_neg (fun z => absurd ((nI_leI (by omega) (by omega)).mp z) (by omega)), if_pos (in_ok hv (by decide)), if_pos (in_ok (by omega) (by decide)), cl (by omega), cl (by omega), hR.2 i hi, if_neg (h10t (by have := hf i hi; omega) ((hn v hv _).mpr ha)), if_pos (in_ok (by omega) (by decide))]
  · intro n j _ hj hI ih
    show f_X7_redHop_L32 (nI v) (n + 1) (nI j) x = _
    rw [f_X7_redHop_L32, hR.1, if_neg (fun z => absurd ((nI_leI (by omega) (by omega)).mp z) (by omega)), if_pos (in_ok hv (by decide)), if_pos (in_ok (by omega) (by decide)), cl (by omega), cl (by omega), hR.2 j (by omega), if_pos (h10f (by have := hf j (by omega); omega) (fun z => hno j hI hj ((hn v hv _).mp z))), nI_1]
    exact ih () (by omega)
theorem nI_p {m : Nat} (h : 0 < m) : nI m - 1 = nI (m - 1) := by
  have := nI_pred (m - 1)
  rw [show m - 1 + 1 = m by omega] at this
  exact this
theorem redHop_ok {x : mX} (hn : ∀ p, p < 8 → ∀ q, bt (x.1 229 p) q = true ↔ A p q) (hR : ar_R x m f) (hm : m ≤ 8) (hf : ∀ i, i < m → f i < 8) (hv : v < 8) (ht : f (m - 1) = t) (ht8 : t < 8) (hm2 : 2 ≤ m) (hp : hp_r A m f t v r) : f_X7_redHop (nI v) x = some (nI r) := by
  obtain ⟨i, i1, i2, i3, i4, rfl⟩ := hp
  unfold f_X7_redHop
  rw [m_jn, hR.1]
  by_cases c : m ≤ 2
  · rw [if_pos (show nI m ≤ (2 : Int32) from (nI_leI (b := 2) (by omega) (by omega)).mpr c)]
    exact redHop_L hn hR hm hf hv (s := 0) (Nat.zero_le _) i1 i2 (fun j _ hj hAj => by have := i4 j hj hAj; omega)
  · rw [if_neg (show ¬ nI m ≤ (2 : Int32) from fun z => c ((nI_leI (b := 2) (by omega) (by omega)).mp z)), nI_p (by omega), if_pos (in_ok (by omega) (by decide)), cl (by omega), hR.2 (m - 1) (by omega), ht]
    by_cases e : t = v
    · rw [if_pos (by rw [e])]
      exact redHop_L hn hR hm hf hv (s := 1) (i3 e.symm (by omega)) i1 i2 (fun j hj1 hj hAj => by have := i4 j hj hAj; omega)
    · rw [if_neg (fun z => e ((nI_eq (by omega) (by omega)).mp z))]
      exact redHop_L hn hR hm hf hv (s := 0) (Nat.zero_le _) i1 i2 (fun j _ hj hAj => absurd (i4 j hj hAj).1.symm e)
theorem blueHop_L {x : mX} (hn : ∀ p, p < 8 → ∀ q, bt (x.1 229 p) q = true ↔ A p q) (hR : ar_R x m f) (hm : m ≤ 8) (hf : ∀ i, i < m → f i < 8) (hv : v < 8) {i : Nat} (ha : A v (f i)) (hno : ∀ j, i < j → j < m → ¬ A v (f j)) : ∀ n k, i ≤ k → k < m → k < n + i → f_X7_blueHop_L36 (nI v) n (nI k) x = some (nI (f i)) := by
  intro n
  induction n with
  | zero => intro k h1 h2 h3; omega
  | succ n ih =>
    intro k h1 h2 h3
    rw [f_X7_blueHop_L36, if_neg (nI_pos (by omega)), if_pos (in_ok hv (by decide)), if_pos (in_ok (by omega) (by decide)), cl (by omega), cl (by omega), hR.2 k h2]
    have hk8 := hf k h2
    by_cases e : k = i
    · subst e
      rw [if_neg (h10t (by omega) ((hn v hv _).mpr ha)), if_pos (in_ok (by omega) (by decide))]
    · rw [if_pos (h10f (by omega) (fun z => hno k (by omega) h2 ((hn v hv _).mp z)))]
      have : nI k + (-1) = nI (k - 1) := sb_m1 (by omega)
      rw [this]
      exact ih (k - 1) (by omega) (by omega) (by omega)
theorem blueHop_ok {x : mX} (hn : ∀ p, p < 8 → ∀ q, bt (x.1 229 p) q = true ↔ A p q) (hR : ar_R x m f) (hm : m ≤ 8) (hf : ∀ i, i < m → f i < 8) (hv : v < 8) (h0 : f 0 = h) (ht : f (m - 1) = t) (ht8 : t < 8) (hm2 : 2 ≤ m) (hp : hp_b A m f h t v r) : f_X7_blueHop (nI v) x = some (nI r) := by
  unfold f_X7_blueHop
  rw [m_jn, hR.1, if_neg (nI_nle (by omega) (by omega)), nI_p (by omega), if_pos (in_ok (by omega) (by decide)), cl (by omega), hR.2 (m - 1) (by omega), ht]
  rcases hp with ⟨a1, a2⟩ | ⟨a1, i, i1, i2, i3, i4⟩
  · rw [if_pos (by rw [a1]), hR.2 0 (by omega), h0, a2]
  · rw [if_neg (fun z => a1 ((nI_eq (by omega) (by omega)).mp z).symm), i4]
    exact blueHop_L hn hR hm hf hv i2 i3 mF (m - 1) (by omega) (by omega) (Nat.lt_of_lt_of_le (show m - 1 < mF from Nat.lt_of_lt_of_le (show m - 1 < 8 by omega) (by decide)) (by omega))
end H1
