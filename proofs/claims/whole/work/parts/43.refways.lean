/-! ===== ways of the reference; numbers in their bounds ===== -/
theorem nI_of' {p : Int32} (h : ¬ p < 0) : ∃ j : Nat, j < 2 ^ 31 ∧ p = nI j := nI_of h
theorem m1_lt {j : Nat} (h : j < 2 ^ 31) : (-1 : Int32) < nI j := by
  rw [Int32.lt_iff_toInt_lt, nI_toInt h]
  have : (-1 : Int32).toInt = -1 := by decide
  omega
theorem in_cases (p : Int32) {n : Nat} (hn : n ≤ 1000) : (∃ k, k < n ∧ p = nI k ∧ f_X11_in p 0 (nI n - 1) = 1) ∨ ((∀ k, k < n → p ≠ nI k) ∧ f_X11_in p 0 (nI n - 1) = 0) := by
  unfold f_X11_in
  by_cases c : p < 0
  · rw [if_pos c]
    exact Or.inr ⟨fun k hk e => nI_pos (n := k) (by omega) (e ▸ c), rfl⟩
  · rw [if_neg c]
    obtain ⟨j, j1, rfl⟩ := nI_of' c
    by_cases cj : j < n
    · rw [nI_p (by omega), if_neg (nI_nlt (by omega) (by omega))]
      exact Or.inl ⟨j, cj, rfl, rfl⟩
    · by_cases c0 : n = 0
      · subst c0
        rw [show nI 0 - 1 = (-1 : Int32) by decide, if_pos (m1_lt j1)]
        exact Or.inr ⟨fun k hk => by omega, rfl⟩
      · rw [nI_p (by omega), if_pos (nI_lt (by omega) (by omega))]
        exact Or.inr ⟨fun k hk e => by have := (nI_eq (by omega) (by omega)).mp e; omega, rfl⟩
theorem cin_cases (p : Int32) {n : Nat} (hn : n ≤ 1000) : (∃ k, k < n ∧ p = nI k ∧ ¬ p < 0 ∧ ¬ nI n ≤ p) ∨ ((∀ k, k < n → p ≠ nI k) ∧ (p < 0 ∨ (¬ p < 0 ∧ nI n ≤ p))) := by
  by_cases c : p < 0
  · exact Or.inr ⟨fun k hk e => nI_pos (n := k) (by omega) (e ▸ c), Or.inl c⟩
  · obtain ⟨j, j1, rfl⟩ := nI_of' c
    by_cases cj : j < n
    · exact Or.inl ⟨j, cj, rfl, c, nI_ge cj (by omega)⟩
    · exact Or.inr ⟨fun k hk e => by have := (nI_eq (by omega) (by omega)).mp e; omega, Or.inr ⟨c, nI_le (by omega) (by omega)⟩⟩
theorem nr_01 {v : Int32} (h : v = 0 ∨ v = 1) : m_nr 1 v = true := by
  rcases h with rfl | rfl <;> decide
theorem isPost_y {np : Nat} (hn : np ≤ 8) (y : mY) (h : y.1 279 17 = nI np) (p : Int32) : (∃ k, k < np ∧ p = nI k ∧ f_X11_isPost p y = some 1) ∨ ((∀ k, k < np → p ≠ nI k) ∧ f_X11_isPost p y = some 0) := by
  unfold f_X11_isPost
  rw [h]
  rcases in_cases p (n := np) (by omega) with ⟨k, k1, k2, k3⟩ | ⟨k1, k2⟩
  · rw [k3, if_pos (nr_01 (Or.inr rfl))]
    exact Or.inl ⟨k, k1, k2, rfl⟩
  · rw [k2, if_pos (nr_01 (Or.inl rfl))]
    exact Or.inr ⟨k1, rfl⟩
theorem isLink_y {np : Nat} (y : mY) (hW : sW (y.1 289) np) (p : Int32) : (∃ k, k < sm (y.1 289) ∧ p = nI k ∧ f_X11_isLink p y = some 1) ∨ ((∀ k, k < sm (y.1 289) → p ≠ nI k) ∧ f_X11_isLink p y = some 0) := by
  unfold f_X11_isLink
  have h16 := hW.2.2.1
  rw [hW.2.1]
  rcases in_cases p (n := sm (y.1 289)) (by omega) with ⟨k, k1, k2, k3⟩ | ⟨k1, k2⟩
  · rw [k3, if_pos (nr_01 (Or.inr rfl))]
    exact Or.inl ⟨k, k1, k2, rfl⟩
  · rw [k2, if_pos (nr_01 (Or.inl rfl))]
    exact Or.inr ⟨k1, rfl⟩
theorem isPost_x {np : Nat} (hn : np ≤ 8) (x : mX) (h : x.1 14 0 = nI np) (p : Int32) : (∃ k, k < np ∧ p = nI k ∧ f_X10_isPost p x = 1) ∨ ((∀ k, k < np → p ≠ nI k) ∧ f_X10_isPost p x = 0) := by
  unfold f_X10_isPost
  rw [h]
  rcases cin_cases p (n := np) (by omega) with ⟨k, k1, k2, k3, k4⟩ | ⟨k1, k2 | ⟨k2, k3⟩⟩
  · rw [if_neg k3, if_neg k4]
    exact Or.inl ⟨k, k1, k2, rfl⟩
  · rw [if_pos k2]
    exact Or.inr ⟨k1, rfl⟩
  · rw [if_neg k2, if_pos k3]
    exact Or.inr ⟨k1, rfl⟩
theorem isLink_x {σ : Nat → Int32} {np rt : Nat} (x : mX) (hR : sR x.1 14 σ np rt) (hW : sW σ np) (p : Int32) : (∃ k, k < sm σ ∧ p = nI k ∧ f_X10_isLink p x = 1) ∨ ((∀ k, k < sm σ → p ≠ nI k) ∧ f_X10_isLink p x = 0) := by
  unfold f_X10_isLink
  have h16 := hW.2.2.1
  rw [hR.2.1, hW.2.1]
  rcases cin_cases p (n := sm σ) (by omega) with ⟨k, k1, k2, k3, k4⟩ | ⟨k1, k2 | ⟨k2, k3⟩⟩
  · rw [if_neg k3, if_neg k4]
    exact Or.inl ⟨k, k1, k2, rfl⟩
  · rw [if_pos k2]
    exact Or.inr ⟨k1, rfl⟩
  · rw [if_neg k2, if_pos k3]
    exact Or.inr ⟨k1, rfl⟩
/-! between -/
theorem sE_dec {σ : Nat → Int32} {l a b : Nat} : sE σ l a b ↔ (σ (8 + l) = nI a ∧ σ (24 + l) = nI b) ∨ (σ (8 + l) = nI b ∧ σ (24 + l) = nI a) := Iff.rfl
theorem between_y {np a b : Nat} (y : mY) (hW : sW (y.1 289) np) : (∃ l, l < sm (y.1 289) ∧ sE (y.1 289) l a b ∧ f_X11_between (nI a) (nI b) y = some (nI l)) ∨ ((∀ l, l < sm (y.1 289) → ¬ sE (y.1 289) l a b) ∧ f_X11_between (nI a) (nI b) y = some (-1)) := by
  unfold f_X11_between
  have w2 := hW.2.1
  have w3 := hW.2.2.1
  refine lp_up (sm (y.1 289)) (fun n j (_ : Unit) => f_X11_between_L2 (nI a) (nI b) n j y) (fun j _ => ∀ l, l < j → ¬ sE (y.1 289) l a b) (fun o => (∃ l, l < sm (y.1 289) ∧ sE (y.1 289) l a b ∧ o = some (nI l)) ∨ ((∀ l, l < sm (y.1 289) → ¬ sE (y.1 289) l a b) ∧ o = some (-1))) ?_ ?_ mF 0 () (Nat.lt_of_le_of_lt w3 (by decide)) (by omega) (fun l hl => by omega)
  · intro n _ hI
    refine Or.inr ⟨hI, ?_⟩
    show f_X11_between_L2 (nI a) (nI b) (n + 1) (nI (sm (y.1 289))) y = _
    rw [f_X11_between_L2, if_pos (by rw [w2]; exact (nI_leI (by omega) (by omega)).mpr (Nat.le_refl _))]
  · intro n j _ hj hI ih
    show (∃ l, l < sm (y.1 289) ∧ sE (y.1 289) l a b ∧ f_X11_between_L2 (nI a) (nI b) (n + 1) (nI j) y = some (nI l)) ∨ ((∀ l, l < sm (y.1 289) → ¬ sE (y.1 289) l a b) ∧ f_X11_between_L2 (nI a) (nI b) (n + 1) (nI j) y = some (-1))
    rw [f_X11_between_L2, if_neg (by rw [w2]; exact fun z => absurd ((nI_leI (by omega) (by omega)).mp z) (by omega)), a8, a24, if_pos (in_ok (by omega) (by decide)), cl (by omega), cl (by omega), nI_1, m_jn]
    have next : ¬ sE (y.1 289) j a b → (∃ l, l < sm (y.1 289) ∧ sE (y.1 289) l a b ∧ f_X11_between_L2 (nI a) (nI b) n (nI (j + 1)) y = some (nI l)) ∨ ((∀ l, l < sm (y.1 289) → ¬ sE (y.1 289) l a b) ∧ f_X11_between_L2 (nI a) (nI b) n (nI (j + 1)) y = some (-1)) := by
      intro hno
      refine ih () (fun l hl => ?_)
      by_cases e : l = j
      · subst e; exact hno
      · exact hI l (by omega)
    have second : ¬ (y.1 289 (8 + j) = nI a ∧ y.1 289 (24 + j) = nI b) → (∃ l, l < sm (y.1 289) ∧ sE (y.1 289) l a b ∧ (if m_in (nI (8 + j)) 72 = true then (if y.1 289 (8 + j) = nI b then (if m_in (nI (24 + j)) 72 = true then (if y.1 289 (24 + j) = nI a then some (nI j) else f_X11_between_L2 (nI a) (nI b) n (nI (j + 1)) y) else none) else f_X11_between_L2 (nI a) (nI b) n (nI (j + 1)) y) else none) = some (nI l)) ∨ ((∀ l, l < sm (y.1 289) → ¬ sE (y.1 289) l a b) ∧ (if m_in (nI (8 + j)) 72 = true then (if y.1 289 (8 + j) = nI b then (if m_in (nI (24 + j)) 72 = true then (if y.1 289 (24 + j) = nI a then some (nI j) else f_X11_between_L2 (nI a) (nI b) n (nI (j + 1)) y) else none) else f_X11_between_L2 (nI a) (nI b) n (nI (j + 1)) y) else none) = some (-1)) := by
      intro h1
      rw [if_pos (in_ok (by omega) (by decide))]
      by_cases c1 : y.1 289 (8 + j) = nI b
      · rw [if_pos c1, if_pos (in_ok (by omega) (by decide))]
        by_cases c2 : y.1 289 (24 + j) = nI a
        · rw [if_pos c2]
          exact Or.inl ⟨j, hj, Or.inr ⟨c1, c2⟩, rfl⟩
        · rw [if_neg c2]
          exact next (fun z => z.elim h1 (fun k => c2 k.2))
      · rw [if_neg c1]
        exact next (fun z => z.elim h1 (fun k => c1 k.1))
    by_cases c1 : y.1 289 (8 + j) = nI a
    · rw [if_pos c1, if_pos (in_ok (by omega) (by decide))]
      by_cases c2 : y.1 289 (24 + j) = nI b
      · rw [if_pos c2]
        exact Or.inl ⟨j, hj, Or.inl ⟨c1, c2⟩, rfl⟩
      · rw [if_neg c2]
        exact second (fun z => c2 z.2)
    · rw [if_neg c1]
      exact second (fun z => c1 z.1)
theorem between_at {np a b l : Nat} (y : mY) (hW : sW (y.1 289) np) (ha : a < 8) (hb : b < 8) (hl : l < sm (y.1 289)) (he : sE (y.1 289) l a b) : f_X11_between (nI a) (nI b) y = some (nI l) := by
  rcases between_y (a := a) (b := b) y hW with ⟨k, k1, k2, k3⟩ | ⟨k1, _⟩
  · rw [k3, hW.2.2.2.2.2.2.2.1 k l a b k1 hl ha hb k2 he]
  · exact absurd he (k1 l hl)
/-! hops and ways -/
section W3
variable {np : Nat}
theorem hopOf_ok {r v c u : Nat} (y : mY) (hW : sW (y.1 289) np) (hk : k_ok y.1) (hr : r < 8) (hc : c < 2) (h : hp (sA (y.1 289) (y.1 289 3)) (bS (y.1 289 2)) c r v u) : f_X11_hopOf (nI r) (nI v) (nI c) y = some (nI u) ∧ y.1 296 (8 * r + v) ≠ 0 := by
  have hN := sN_learnt hW
  have a := hp_A hN.2.1 h
  obtain ⟨n, p, t, f, rd, bl, h1, h2⟩ := h
  have e1 : (8 * r + v) / 8 = r := by omega
  have e2 : (8 * r + v) % 8 = v := by omega
  rcases hk (8 * r + v) (by omega) with ⟨n', p', t', f', rd', bl', k1, k2, k3, k4, k5, k6, k7⟩ | ⟨k1, _⟩
  · rw [e1, e2] at k1
    have e := tb_un hN.2.1 k1 h1
    have hn0 : n' ≠ 0 := fun e0 => by
      have := (k1.2.2.2.2.1 v).mpr (tb_B hN.2.1 k1.1 k1.2.1 k1.2.2.1).2.1
      rw [e0, nI_0, b_0] at this
      cases this
    have hn256 := k1.2.2.2.1
    refine ⟨?_, by rw [k2]; exact nI_ne0 (by omega) (by omega)⟩
    unfold f_X11_hopOf
    rw [show (8 : Int32) * nI r = nI (8 * r) from pk_mul 8 r, nI_add]
    by_cases c0 : c = 0
    · subst c0
      rw [if_pos nI_0, if_pos (in_ok (by omega) (by decide)), cl (by omega), k6, h2, if_pos rfl, e.2.2.2.1]
    · rw [if_neg (nI_ne0 (by omega) (by omega)), if_pos (in_ok (by omega) (by decide)), cl (by omega), k7, h2, if_neg c0, e.2.2.2.2.1]
  · rw [e1, e2] at k1
    exact absurd ⟨h1.1, h1.2.1⟩ k1
theorem way_L {r c : Nat} (i : Int32) (y : mY) (hW : sW (y.1 289) np) (hk : k_ok y.1) (hr : r < 8) (hc : c < 2) : ∀ d v h n, wy (sA (y.1 289) (y.1 289 3)) (bS (y.1 289 2)) c r d v → h + d ≤ 7 → d < n → ∃ res, f_X11_way_L32 (nI r) (nI c) i n (nI h) (nI v) y = some (res, y) ∧ wr (sA (y.1 289) (y.1 289 3)) (bS (y.1 289 2)) c r i d v h res := by
  have hN := sN_learnt hW
  intro d
  induction d with
  | zero =>
    intro v h n hw hd hn
    cases n with
    | zero => omega
    | succ n =>
      rw [f_X11_way_L32, if_pos (by rw [hw.1])]
      by_cases e : i = -1
      · rw [if_pos e]; exact ⟨_, rfl, by show _ = _; rw [if_pos e]⟩
      · rw [if_neg e]; exact ⟨_, rfl, by show _ = _; rw [if_neg e]⟩
  | succ d ih =>
    intro v h n hw hd hn
    obtain ⟨u, u1, u2⟩ := hw
    have a := hp_A hN.2.1 u1
    cases n with
    | zero => omega
    | succ n =>
      rw [f_X11_way_L32, if_neg (fun z => a.2.1 ((nI_eq (by omega) (by omega)).mp z)), (hopOf_ok y hW hk hr hc u1).1, Option.bind_some]
      by_cases e : nI h = i
      · rw [if_pos e]
        exact ⟨_, rfl, u, u1, Or.inl ⟨e.symm, rfl⟩⟩
      · rw [if_neg e, nI_1]
        obtain ⟨res, r1, r2⟩ := ih u (h + 1) n u2 (by omega) (by omega)
        exact ⟨res, r1, u, u1, Or.inr ⟨Ne.symm e, r2⟩⟩
theorem onWay_L {r c : Nat} (y : mY) (hW : sW (y.1 289) np) (hk : k_ok y.1) (hr : r < 8) (hc : c < 2) : ∀ d v n s, wy (sA (y.1 289) (y.1 289 3)) (bS (y.1 289 2)) c r d v → d < n → ∃ res, f_X11_onWay_L12 (nI r) (nI c) n s (nI v) y = some res ∧ ∀ w, bt res w = true ↔ bt s w = true ∨ wo (sA (y.1 289) (y.1 289 3)) (bS (y.1 289 2)) c r d v w := by
  have hN := sN_learnt hW
  intro d
  induction d with
  | zero =>
    intro v n s hw hn
    cases n with
    | zero => omega
    | succ n =>
      rw [f_X11_onWay_L12, if_pos (by rw [hw.1])]
      exact ⟨s, rfl, fun w => ⟨Or.inl, fun z => z.elim id (fun k => k.elim)⟩⟩
  | succ d ih =>
    intro v n s hw hn
    obtain ⟨u, u1, u2⟩ := hw
    have a := hp_A hN.2.1 u1
    cases n with
    | zero => omega
    | succ n =>
      rw [f_X11_onWay_L12, if_neg (fun z => a.2.1 ((nI_eq (by omega) (by omega)).mp z)), (hopOf_ok y hW hk hr hc u1).1, Option.bind_some]
      obtain ⟨res, r1, r2⟩ := ih u n (s ||| ((1 : Int32) <<< (nI v &&& 31))) u2 (by omega)
      refine ⟨res, r1, fun w => ?_⟩
      rw [r2 w, b_or, b_bit (by omega), Bool.or_eq_true, decide_eq_true_eq]
      constructor
      · rintro ((z | z) | z)
        · exact Or.inl z
        · exact Or.inr (Or.inl z)
        · exact Or.inr (Or.inr ⟨u, u1, z⟩)
      · rintro (z | z | ⟨u', z1, z2⟩)
        · exact Or.inl (Or.inl z)
        · exact Or.inl (Or.inr z)
        · rw [hp_un hN.2.1 z1 u1] at z2
          exact Or.inr z2
theorem onWay_ok {r c v : Nat} (y : mY) (hW : sW (y.1 289) np) (hk : k_ok y.1) (hr : r < 8) (hc : c < 2) (h1 : g_C (sA (y.1 289) (y.1 289 3)) (bS (y.1 289 2)) v r) (h2 : v ≠ r) : ∃ res, f_X11_onWay (nI r) (nI v) (nI c) y = some res ∧ ∀ w, bt res w = true ↔ w ≠ v ∧ ∃ d, wy (sA (y.1 289) (y.1 289 3)) (bS (y.1 289 2)) c r d v ∧ wo (sA (y.1 289) (y.1 289 3)) (bS (y.1 289 2)) c r d v w := by
  have hN := sN_learnt hW
  obtain ⟨d, hw⟩ := wy_ex (c := c) hN.2.1 h1
  have hle := wy_le hN.2.1 hw
  cases d with
  | zero => exact absurd hw.1 h2
  | succ d =>
    obtain ⟨u, u1, u2⟩ := id hw
    unfold f_X11_onWay
    have hm : 8 < mF := by decide
    obtain ⟨res, r1, r2⟩ := onWay_L y hW hk hr hc d u mF 0 u2 (by omega)
    rw [(hopOf_ok y hW hk hr hc u1).1, Option.bind_some, r1]
    refine ⟨res, rfl, fun w => ?_⟩
    rw [r2 w, b_0]
    constructor
    · intro z
      have z := z.resolve_left (by decide)
      refine ⟨fun e => ?_, d + 1, hw, Or.inr ⟨u, u1, z⟩⟩
      obtain ⟨e', e1, e2⟩ := wo_wy hN.2.1 d u w u2 z
      rw [e] at e2
      have := wy_un hN.2.1 _ _ _ e2 hw
      omega
    · rintro ⟨z1, d', z2, z3⟩
      rw [wy_un hN.2.1 _ _ _ z2 hw] at z3
      rcases z3 with z | ⟨u', k1, k2⟩
      · exact absurd z z1
      · rw [hp_un hN.2.1 k1 u1] at k2
        exact Or.inr k2
theorem dear_L {r c : Nat} (y : mY) (hW : sW (y.1 289) np) (hk : k_ok y.1) (hr : r < 8) (hc : c < 2) : ∀ d v n s, wy (sA (y.1 289) (y.1 289 3)) (bS (y.1 289 2)) c r d v → d < n → ∃ res, f_X11_dear_L26 (nI r) (nI c) n s (nI v) y = some (res, y) ∧ wc (y.1 289) (y.1 289 2) (y.1 289 3) c r d v s res := by
  have hN := sN_learnt hW
  intro d
  induction d with
  | zero =>
    intro v n s hw hn
    cases n with
    | zero => omega
    | succ n =>
      rw [f_X11_dear_L26, if_pos (by rw [hw.1])]
      exact ⟨s, rfl, rfl⟩
  | succ d ih =>
    intro v n s hw hn
    obtain ⟨u, u1, u2⟩ := hw
    have a := hp_A hN.2.1 u1
    obtain ⟨_, _, l, l1, l2, l3⟩ := a.1
    have hl := hN.2.2.1 l l2
    cases n with
    | zero => omega
    | succ n =>
      rw [f_X11_dear_L26, if_neg (fun z => a.2.1 ((nI_eq (by omega) (by omega)).mp z)), (hopOf_ok y hW hk hr hc u1).1, Option.bind_some, between_at y hW a.2.2.1 a.2.2.2 hl l3, Option.bind_some, a40, if_pos (in_ok (by omega) (by decide)), cl (by omega)]
      obtain ⟨res, r1, r2⟩ := ih u n (s + y.1 289 (40 + l)) u2 (by omega)
      exact ⟨res, r1, u, l, u1, l2, l3, r2⟩
/-- the tables are right, if they are said to be known -/
def kq (y : mY) : Prop := y.1 279 30 ≠ 0 → k_ok y.1
/-- r and v are posts of one piece, learnt -/
def pl (A : Nat → Nat → Prop) (V : Nat → Prop) (np : Nat) (p1 p2 : Int32) (r v : Nat) : Prop := r < np ∧ v < np ∧ p1 = nI r ∧ p2 = nI v ∧ v ≠ r ∧ g_C A V v r
theorem placeOf_ok (y : mY) (hW : sW (y.1 289) np) (hp : y.1 279 17 = nI np) (hk : kq y) (p1 p2 : Int32) : ∃ y', yF kn_W y y' ∧ kq y' ∧ ((∃ r v, pl (sA (y.1 289) (y.1 289 3)) (bS (y.1 289 2)) np p1 p2 r v ∧ f_X11_placeOf p1 p2 y = some (nI (8 * r + v), y') ∧ k_ok y'.1) ∨ ((∀ r v, ¬ pl (sA (y.1 289) (y.1 289 3)) (bS (y.1 289 2)) np p1 p2 r v) ∧ f_X11_placeOf p1 p2 y = some (-1, y'))) := by
  have hnp := hW.1
  unfold f_X11_placeOf
  rcases isPost_y hnp y hp p1 with ⟨r, r1, r2, r3⟩ | ⟨r1, r2⟩
  · rcases isPost_y hnp y hp p2 with ⟨v, v1, v2, v3⟩ | ⟨v1, v2⟩
    · rw [r3, Option.bind_some, if_neg (by decide), v3, Option.bind_some, if_neg (by decide)]
      by_cases c : r = v
      · rw [if_pos (by rw [r2, v2, c])]
        exact ⟨y, yF_rf _ _, hk, Or.inr ⟨fun r' v' z => z.2.2.2.2.1 (by
          have a := (nI_eq (by omega) (by have := z.1; omega)).mp (r2.symm.trans z.2.2.1)
          have b := (nI_eq (by omega) (by have := z.2.1; omega)).mp (v2.symm.trans z.2.2.2.1)
          omega), rfl⟩⟩
      · rw [if_neg (fun z => c ((nI_eq (by omega) (by omega)).mp (r2.symm.trans (z.trans v2))))]
        obtain ⟨y', k1, k2, k3, k4⟩ := knows_ok y hW hk
        have eσ : y'.1 289 = y.1 289 := yF_row k2 (fun c z => by rcases z with z | z <;> omega)
        rw [k1, Option.bind_some, r2, v2, show (8 : Int32) * nI r = nI (8 * r) from pk_mul 8 r, nI_add, if_pos (in_ok (by omega) (by decide)), cl (by omega)]
        refine ⟨y', k2, fun _ => k3, ?_⟩
        have e1 : (8 * r + v) / 8 = r := by omega
        have e2 : (8 * r + v) % 8 = v := by omega
        rcases k3 (8 * r + v) (by omega) with ⟨n', p', t', f', rd', bl', q1, q2, _⟩ | ⟨q1, q2⟩
        · rw [e1, e2, eσ] at q1
          have hn0 : n' ≠ 0 := fun e0 => by
            have := (q1.2.2.2.2.1 v).mpr (tb_B (sN_learnt hW).2.1 q1.1 q1.2.1 q1.2.2.1).2.1
            rw [e0, nI_0, b_0] at this
            cases this
          have hn256 := q1.2.2.2.1
          rw [if_neg (by rw [q2]; exact nI_ne0 (by omega) (by omega))]
          exact Or.inl ⟨r, v, ⟨r1, v1, rfl, rfl, Ne.symm c, q1.1⟩, rfl, k3⟩
        · rw [e1, e2, eσ] at q1
          rw [if_pos q2]
          refine Or.inr ⟨fun r' v' z => q1 ?_, rfl⟩
          have a := (nI_eq (by omega) (by have := z.1; omega)).mp z.2.2.1
          have b := (nI_eq (by omega) (by have := z.2.1; omega)).mp z.2.2.2.1
          rw [a, b]
          exact ⟨z.2.2.2.2.2, z.2.2.2.2.1⟩
    · rw [r3, Option.bind_some, if_neg (by decide), v2, Option.bind_some, if_pos rfl]
      exact ⟨y, yF_rf _ _, hk, Or.inr ⟨fun r' v' z => v1 v' z.2.1 z.2.2.2.1, rfl⟩⟩
  · rw [r2, Option.bind_some, if_pos rfl]
    exact ⟨y, yF_rf _ _, hk, Or.inr ⟨fun r' v' z => r1 r' z.1 z.2.2.1, rfl⟩⟩
end W3
