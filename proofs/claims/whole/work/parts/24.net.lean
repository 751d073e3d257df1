/-! ===== the class's Net: parts, divide, match, build ===== -/
section N1
variable {Q : Option mX → Prop}
theorem parts_c (r0 r1 base : Nat) (hl : base + 8 ≤ mLen r1) (hL : mLen r1 < 100000) (x : mX) (kk : mX → Option mX) (hk : ∀ x', xR r1 base (base + 8) x x' → (∀ p, p < 8 → x'.1 r1 (base + p) = 0) → Q (kk x')) : Q (f_X10_parts_L3 r0 r1 (nI base) mF 0 x kk) := by
  refine lp_up 8 (fun n a s => f_X10_parts_L3 r0 r1 (nI base) n a s kk) (fun j s => xR r1 base (base + 8) x s ∧ ∀ p, p < j → s.1 r1 (base + p) = 0) Q ?_ ?_ mF 0 x (by decide) (by decide) ⟨xR_rf _ _ _ _, fun p hp => by omega⟩
  · intro n s hI
    show Q (f_X10_parts_L3 r0 r1 (nI base) (n + 1) (nI 8) s kk)
    rw [f_X10_parts_L3, if_pos (by decide)]
    exact hk s hI.1 hI.2
  · intro n j s hj hI ih
    show Q (f_X10_parts_L3 r0 r1 (nI base) (n + 1) (nI j) s kk)
    rw [f_X10_parts_L3, if_neg (k8f hj), nI_1, nI_add, if_pos (in_ok (by omega) (by omega)), cl (by omega), m_let]
    refine ih _ ⟨xR_set hI.1 (by omega) (by omega), fun p hp => ?_⟩
    by_cases e : p = j
    · subst e; exact xs_eq _ _ _ _
    · exact (xs_ec (by omega)).trans (hI.2 p (by omega))
theorem parts_w (r0 r1 base : Nat) (hl : base + 8 ≤ mLen r1) (hL : mLen r1 < 100000) (part : Int32) (x : mX) (kk : mX → Option mX) (hk : ∀ x', xR r1 base (base + 8) x x' → (∀ p, p < 8 → x'.1 r1 (base + p) = if bt part p = true then part else x.1 r1 (base + p)) → Q (kk x')) : Q (f_X10_parts_L63 r0 r1 (nI base) part mF 0 x kk) := by
  refine lp_up 8 (fun n a s => f_X10_parts_L63 r0 r1 (nI base) part n a s kk) (fun j s => xR r1 base (base + 8) x s ∧ ∀ p, p < 8 → s.1 r1 (base + p) = if p < j ∧ bt part p = true then part else x.1 r1 (base + p)) Q ?_ ?_ mF 0 x (by decide) (by decide) ⟨xR_rf _ _ _ _, fun p hp => by rw [if_neg (by omega)]⟩
  · intro n s hI
    show Q (f_X10_parts_L63 r0 r1 (nI base) part (n + 1) (nI 8) s kk)
    rw [f_X10_parts_L63, if_pos (by decide)]
    refine hk s hI.1 (fun p hp => ?_)
    rw [hI.2 p hp]
    by_cases e : bt part p = true
    · rw [if_pos ⟨hp, e⟩, if_pos e]
    · rw [if_neg (fun z => e z.2), if_neg e]
  · intro n j s hj hI ih
    show Q (f_X10_parts_L63 r0 r1 (nI base) part (n + 1) (nI j) s kk)
    rw [f_X10_parts_L63, if_neg (k8f hj), nI_1]
    by_cases hb : bt part j = true
    · rw [if_neg (h10t (by omega) hb), nI_add, if_pos (in_ok (by omega) (by omega)), cl (by omega), m_let]
      refine ih _ ⟨xR_set hI.1 (by omega) (by omega), fun p hp => ?_⟩
      by_cases e : p = j
      · subst e; rw [xs_eq, if_pos ⟨by omega, hb⟩]
      · rw [xs_ec (by omega), hI.2 p hp]
        by_cases h2 : p < j ∧ bt part p = true
        · rw [if_pos h2, if_pos ⟨by omega, h2.2⟩]
        · rw [if_neg h2, if_neg (fun z => h2 ⟨by omega, z.2⟩)]
    · rw [if_pos (h10f (by omega) hb)]
      refine ih _ ⟨hI.1, fun p hp => ?_⟩
      rw [hI.2 p hp]
      by_cases h2 : p < j ∧ bt part p = true
      · rw [if_pos h2, if_pos ⟨by omega, h2.2⟩]
      · rw [if_neg h2, if_neg (fun z => h2 ⟨by
          have : p ≠ j := fun e => hb (e ▸ z.2)
          omega, z.2⟩)]
end N1
theorem parts_ok {r0 r1 : Nat} (base : Nat) (hr : r0 ≠ r1) (hl : base + 8 ≤ mLen r1) (hL : mLen r1 < 100000) {set : Int32} (hW : b8 set) (x : mX) (hA : ∀ a b, nA (x.1 r0) a b → nA (x.1 r0) b a) : ∃ x', f_X10_parts r0 set r1 (nI base) x = some x' ∧ xR r1 base (base + 8) x x' ∧ ∀ p, p < 8 → ∀ i, bt (x'.1 r1 (base + p)) i = true ↔ g_C (nA (x.1 r0)) (bS set) p i := by
  unfold f_X10_parts
  refine parts_c (Q := fun o => ∃ x', o = some x' ∧ xR r1 base (base + 8) x x' ∧ ∀ p, p < 8 → ∀ i, bt (x'.1 r1 (base + p)) i = true ↔ g_C (nA (x.1 r0)) (bS set) p i) r0 r1 base hl hL x _ ?_
  intro x1 hx1 hz
  refine lp_ok 8 (fun n a s => f_X10_parts_L26 r0 r1 set (nI base) n a s) (fun j s => xR r1 base (base + 8) x s ∧ ∀ p, p < 8 → (∀ i, bt (s.1 r1 (base + p)) i = true ↔ g_C (nA (x.1 r0)) (bS set) p i) ∨ (j ≤ p ∧ s.1 r1 (base + p) = 0)) ?_ ?_ mF 0 x1 (by decide) (by decide) ⟨hx1, fun p hp => Or.inr ⟨Nat.zero_le _, hz p hp⟩⟩
  · intro n s hI
    show ∃ x', f_X10_parts_L26 r0 r1 set (nI base) (n + 1) (nI 8) s = some x' ∧ _
    rw [f_X10_parts_L26, if_pos (by decide)]
    refine ⟨s, rfl, hI.1, fun p hp => ?_⟩
    rcases hI.2 p hp with h | h
    · exact h
    · omega
  · intro n j s hj hI ih
    show ∃ x', f_X10_parts_L26 r0 r1 set (nI base) (n + 1) (nI j) s = some x' ∧ _
    rw [f_X10_parts_L26, if_neg (k8f hj), nI_1]
    by_cases hb : bt set j = true
    · rw [if_neg (h10t (by omega) hb), nI_add, if_pos (in_ok (by omega) (by omega)), cl (by omega)]
      by_cases h0 : s.1 r1 (base + j) = 0
      · rw [if_pos h0]
        obtain ⟨S, e, hS⟩ := reach_ok r0 hW s hj
        rw [e, Option.bind_some]
        have hrow : s.1 r0 = x.1 r0 := hI.1.1 r0 hr
        rw [hrow] at hS
        refine parts_w (Q := fun o => ∃ x', o = some x' ∧ xR r1 base (base + 8) x x' ∧ ∀ p, p < 8 → ∀ i, bt (x'.1 r1 (base + p)) i = true ↔ g_C (nA (x.1 r0)) (bS set) p i) r0 r1 base hl hL S s _ ?_
        intro x5 hx5 hv
        refine ih x5 ⟨xR_tr hI.1 hx5, fun p hp => ?_⟩
        by_cases hp2 : bt S p = true
        · refine Or.inl fun i => ?_
          have hjp := (hS p).mp hp2
          rw [hv p hp, if_pos hp2, hS]
          exact ⟨fun h => g_tr (g_sy hA hjp) h, fun h => g_tr hjp h⟩
        · rw [hv p hp, if_neg hp2]
          rcases hI.2 p hp with h | h
          · exact Or.inl h
          · refine Or.inr ⟨?_, h.2⟩
            have : p ≠ j := fun e => hp2 (e ▸ (hS j).mpr (g_rf hb))
            omega
      · rw [if_neg h0]
        refine ih s ⟨hI.1, fun p hp => ?_⟩
        rcases hI.2 p hp with h | h
        · exact Or.inl h
        · refine Or.inr ⟨?_, h.2⟩
          have : p ≠ j := fun e => h0 (e ▸ h.2)
          omega
    · rw [if_pos (h10f (by omega) hb)]
      refine ih s ⟨hI.1, fun p hp => ?_⟩
      rcases hI.2 p hp with h | h
      · exact Or.inl h
      · by_cases e : p = j
        · subst e
          refine Or.inl fun i => ?_
          rw [h.2, b_0]
          exact ⟨fun z => (by cases z), fun z => absurd z.1 hb⟩
        · exact Or.inr ⟨by omega, h.2⟩
/-- the pieces of the whole, and those without each one -/
def n_div (X : Nat → Nat → Int32) (a : Nat) (P : Int32) (A : Nat → Nat → Prop) : Prop := (∀ p, p < 8 → ∀ i, bt (X (a + 2) p) i = true ↔ g_C A (bS P) p i) ∧ ∀ g, g < 8 → ∀ p, p < 8 → ∀ i, bt (X (a + 4) (g * 8 + p)) i = true ↔ g_C A (g_D (bS P) g) p i
def n_adr (a : Nat) : Prop := a = 222 ∨ a = 228 ∨ a = 258
theorem n_len2 {a : Nat} (h : n_adr a) : mLen (a + 2) = 8 := by rcases h with rfl | rfl | rfl <;> decide +kernel
theorem n_len4 {a : Nat} (h : n_adr a) : mLen (a + 4) = 64 := by rcases h with rfl | rfl | rfl <;> decide +kernel
theorem g_C_eq {A : Nat → Nat → Prop} {S T : Nat → Prop} {a b : Nat} (h : ∀ c, S c ↔ T c) : g_C A S a b ↔ g_C A T a b := ⟨fun k => g_mo k (fun c => (h c).mp), fun k => g_mo k (fun c => (h c).mpr)⟩
theorem bS_wo {P : Int32} {g : Nat} (hg : g < 32) (c : Nat) : bS (P &&& (((1 : Int32) <<< (nI g &&& 31)) ^^^ (-1 : Int32))) c ↔ g_D (bS P) g c := by
  unfold bS g_D
  rw [b_wo hg]
  simp
theorem divide_ok {a : Nat} (ha : n_adr a) (x : mX) (hP : b8 (x.1 a 0)) (hA : ∀ c d, nA (x.1 (a + 1)) c d → nA (x.1 (a + 1)) d c) : ∃ x', f_X3_divide a x = some x' ∧ xW (fun q => q = a + 2 ∨ q = a + 4) x x' ∧ n_div x'.1 a (x.1 a 0) (nA (x.1 (a + 1))) := by
  unfold f_X3_divide
  obtain ⟨x1, e1, hR1, h1⟩ := parts_ok (r0 := a + 1) (r1 := a + 2) 0 (by omega) (by rw [n_len2 ha]; decide) (by rw [n_len2 ha]; decide) hP x hA
  rw [nI_0] at e1
  rw [e1, Option.bind_some]
  refine lp_ok 8 (fun n b s => f_X3_divide_L18 a n b s) (fun j s => xW (fun q => q = a + 2 ∨ q = a + 4) x s ∧ s.1 (a + 2) = x1.1 (a + 2) ∧ ∀ g, g < j → ∀ p, p < 8 → ∀ i, bt (s.1 (a + 4) (g * 8 + p)) i = true ↔ g_C (nA (x.1 (a + 1))) (g_D (bS (x.1 a 0)) g) p i) ?_ ?_ mF 0 x1 (by decide) (by decide) ⟨xW_R hR1 (Or.inl rfl), rfl, fun g hg => by omega⟩
  · intro n s hI
    show ∃ x', f_X3_divide_L18 a (n + 1) (nI 8) s = some x' ∧ _
    rw [f_X3_divide_L18, if_pos (by decide)]
    refine ⟨s, rfl, hI.1, fun p hp i => ?_, hI.2.2⟩
    rw [hI.2.1]
    have := h1 p hp i
    rw [Nat.zero_add] at this
    exact this
  · intro n j s hj hI ih
    show ∃ x', f_X3_divide_L18 a (n + 1) (nI j) s = some x' ∧ _
    rw [f_X3_divide_L18, if_neg (k8f hj), nI_1]
    have ep : s.1 a = x.1 a := hI.1.1 a (by omega)
    have en : s.1 (a + 1) = x.1 (a + 1) := hI.1.1 (a + 1) (by omega)
    have e8 : nI j * (8 : Int32) = nI (j * 8) := pk_mul j 8
    rw [ep, e8]
    obtain ⟨x2, e2, hR2, h2⟩ := parts_ok (r0 := a + 1) (r1 := a + 4) (set := (x.1 a 0) &&& (((1 : Int32) <<< (nI j &&& 31)) ^^^ (-1 : Int32))) (j * 8) (by omega) (by rw [n_len4 ha]; omega) (by rw [n_len4 ha]; decide) (b8_andl hP) s (by rw [en]; exact hA)
    rw [e2, Option.bind_some]
    refine ih x2 ⟨xW_tr hI.1 (xW_R hR2 (Or.inr rfl)), (hR2.1 (a + 2) (by omega)).trans hI.2.1, fun g hg p hp i => ?_⟩
    by_cases e : g = j
    · subst e
      rw [h2 p hp i, en]
      exact g_C_eq (bS_wo (by omega))
    · rw [hR2.2.2 (g * 8 + p) (by omega)]
      exact hI.2.2 g (by omega) p hp i
/-- the mates -/
def n_mat (X : Nat → Nat → Int32) (a : Nat) (P : Int32) (A : Nat → Nat → Prop) : Prop := ∀ p, p < 8 → ∀ i, bt (X (a + 5) p) i = true ↔ g_M A (bS P) p i
theorem without_ok {a g p : Nat} (ha : n_adr a) (hg : g < 8) (hp : p < 8) (x : mX) : f_X3_without a (nI g) (nI p) x = some (x.1 (a + 4) (g * 8 + p)) := by
  unfold f_X3_without
  rw [show nI g * (8 : Int32) = nI (g * 8) from pk_mul g 8, nI_add, if_pos (in_ok (by omega) (by decide)), cl (by omega)]
theorem match_in {a : Nat} (ha : n_adr a) {A : Nat → Nat → Prop} (x : mX) (hD : n_div x.1 a (x.1 a 0) A) {p : Nat} (hp : p < 8) (h0 : x.1 (a + 5) p = x.1 (a + 2) p) (hP : b8 (x.1 a 0)) {Q : Option mX → Prop} (kk : mX → Option mX) (hk : ∀ x', xR (a + 5) p (p + 1) x x' → (∀ i, bt (x'.1 (a + 5) p) i = true ↔ g_M A (bS (x.1 a 0)) p i) → Q (kk x')) : Q (f_X3_match_L22 a (nI p) mF 0 x kk) := by
  refine lp_up 8 (fun n b s => f_X3_match_L22 a (nI p) n b s kk) (fun j s => xR (a + 5) p (p + 1) x s ∧ ∀ i, bt (s.1 (a + 5) p) i = true ↔ (g_C A (bS (x.1 a 0)) p i ∧ ∀ q, q < j → q ≠ p → bS (x.1 a 0) q → (i = q ∨ g_C A (g_D (bS (x.1 a 0)) q) p i))) Q ?_ ?_ mF 0 x (by decide) (by decide) ⟨xR_rf _ _ _ _, fun i => ?_⟩
  · intro n s hI
    show Q (f_X3_match_L22 a (nI p) (n + 1) (nI 8) s kk)
    rw [f_X3_match_L22, if_pos (by decide)]
    refine hk s hI.1 (fun i => ?_)
    rw [hI.2]
    constructor
    · rintro ⟨h1, h2⟩
      refine g_M_of h1 (fun y hy y1 y2 => ?_)
      rcases h2 y (hP y hy) y1 hy with h | h
      · exact absurd h.symm y2
      · exact h
    · intro h
      refine ⟨h.1, fun q _ q1 _ => ?_⟩
      by_cases e : i = q
      · exact Or.inl e
      · exact Or.inr (h.2 q q1 (Ne.symm e))
  · intro n j s hj hI ih
    show Q (f_X3_match_L22 a (nI p) (n + 1) (nI j) s kk)
    have ep : s.1 a = x.1 a := hI.1.1 a (by omega)
    have ed : s.1 (a + 4) = x.1 (a + 4) := hI.1.1 (a + 4) (by omega)
    rw [f_X3_match_L22, if_neg (k8f hj), nI_1, ep]
    have skip : (∀ i, g_C A (bS (x.1 a 0)) p i → (j ≠ p → bS (x.1 a 0) j → (i = j ∨ g_C A (g_D (bS (x.1 a 0)) j) p i))) → Q (f_X3_match_L22 a (nI p) n (nI (j + 1)) s kk) := by
      intro hs
      refine ih s ⟨hI.1, fun i => ?_⟩
      rw [hI.2]
      refine ⟨fun h => ⟨h.1, fun q hq q1 q2 => ?_⟩, fun h => ⟨h.1, fun q hq => h.2 q (by omega)⟩⟩
      by_cases e : q = j
      · subst e; exact hs i h.1 q1 q2
      · exact h.2 q (by omega) q1 q2
    by_cases hjp : j = p
    · rw [if_pos (by rw [hjp])]
      exact skip (fun i _ h => absurd hjp h)
    · rw [if_neg (fun z => hjp ((nI_eq (by omega) (by omega)).mp z))]
      by_cases hPp : bt (x.1 a 0) p = true
      · rw [if_neg (h10t (by omega) hPp)]
        by_cases hPj : bt (x.1 a 0) j = true
        · rw [if_neg (h10t (by omega) hPj), if_pos (in_ok hp (by decide)), without_ok ha hj hp, Option.bind_some, if_pos (in_ok hp (by decide)), cl (by omega), m_let]
          refine ih _ ⟨xR_set hI.1 (by omega) (by omega), fun i => ?_⟩
          rw [xs_eq, b_and, b_or, b_bit (by omega), ed, Bool.and_eq_true, Bool.or_eq_true, decide_eq_true_eq, hI.2, hD.2 j hj p hp i]
          constructor
          · rintro ⟨⟨h1, h2⟩, h3⟩
            refine ⟨h1, fun q hq q1 q2 => ?_⟩
            by_cases e : q = j
            · subst e; exact h3.symm
            · exact h2 q (by omega) q1 q2
          · rintro ⟨h1, h2⟩
            exact ⟨⟨h1, fun q hq => h2 q (by omega)⟩, (h2 j (by omega) hjp hPj).symm⟩
        · rw [if_pos (h10f (by omega) hPj)]
          exact skip (fun i _ _ h => absurd h hPj)
      · rw [if_pos (h10f (by omega) hPp)]
        exact skip (fun i h => absurd h.1 hPp)
  · rw [h0, hD.1 p hp i]
    exact ⟨fun h => ⟨h, fun q hq => by omega⟩, fun h => h.1⟩
theorem match_ok {a : Nat} (ha : n_adr a) {A : Nat → Nat → Prop} (x : mX) (hD : n_div x.1 a (x.1 a 0) A) (hP : b8 (x.1 a 0)) : ∃ x', f_X3_match a x = some x' ∧ xW (fun q => q = a + 5) x x' ∧ n_mat x'.1 a (x.1 a 0) A := by
  unfold f_X3_match
  refine lp_ok 8 (fun n b s => f_X3_match_L2 a n b s) (fun j s => xW (fun q => q = a + 5) x s ∧ ∀ p, p < j → ∀ i, bt (s.1 (a + 5) p) i = true ↔ g_M A (bS (x.1 a 0)) p i) ?_ ?_ mF 0 x (by decide) (by decide) ⟨xW_rf _ _, fun p hp => by omega⟩
  · intro n s hI
    show ∃ x', f_X3_match_L2 a (n + 1) (nI 8) s = some x' ∧ _
    rw [f_X3_match_L2, if_pos (by decide)]
    exact ⟨s, rfl, hI.1, hI.2⟩
  · intro n j s hj hI ih
    show ∃ x', f_X3_match_L2 a (n + 1) (nI j) s = some x' ∧ _
    have ep : s.1 a = x.1 a := hI.1.1 a (by omega)
    have e2 : s.1 (a + 2) = x.1 (a + 2) := hI.1.1 (a + 2) (by omega)
    have e4 : s.1 (a + 4) = x.1 (a + 4) := hI.1.1 (a + 4) (by omega)
    rw [f_X3_match_L2, if_neg (k8f hj), if_pos (in_ok hj (by decide)), if_pos (in_ok hj (by decide)), cl (by omega), m_let, nI_1]
    have ep' : (m_xs s (a + 5) j (s.1 (a + 2) j)).1 a = x.1 a := (xs_ne (by omega)).trans ep
    refine match_in (Q := fun o => ∃ x', o = some x' ∧ xW (fun q => q = a + 5) x x' ∧ n_mat x'.1 a (x.1 a 0) A) (A := A) ha (m_xs s (a + 5) j (s.1 (a + 2) j)) ?_ hj ?_ (by rw [ep']; exact hP) _ ?_
    · rw [ep']
      refine ⟨fun p hp i => ?_, fun g hg p hp i => ?_⟩
      · rw [xs_ne (by omega), e2]; exact hD.1 p hp i
      · rw [xs_ne (by omega), e4]; exact hD.2 g hg p hp i
    · rw [xs_eq, xs_ne (by omega)]
    · intro x4 hx4 h4
      rw [ep'] at h4
      refine ih x4 ⟨xW_tr (xW_set hI.1 rfl) (xW_R hx4 rfl), fun p hp i => ?_⟩
      by_cases e : p = j
      · subst e; exact h4 i
      · rw [hx4.2.2 p (by omega), xs_ec e]
        exact hI.2 p (by omega) i
