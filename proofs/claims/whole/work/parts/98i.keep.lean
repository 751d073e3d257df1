/-! ===== states kept ===== -/
section SQ
variable {np rt : Nat} {x x' : mX} {y y' : mY} {σ : Nat → Int32}
def cpW (d0 : Nat) (q c : Nat) : Prop := d0 ≤ q ∧ q ≤ d0 + 4
theorem copy_L {d0 s0 : Nat} (hds : d0 + 5 ≤ s0 ∨ s0 + 5 ≤ d0) (x : mX) : ∃ x1, f_X6_copy_L82 d0 s0 mF 0 x = some x1 ∧ xF (fun q c => d0 < q ∧ q ≤ d0 + 4) x x1 ∧ ∀ i, i < 16 → x1.1 (d0 + 1) i = x.1 (s0 + 1) i ∧ x1.1 (d0 + 2) i = x.1 (s0 + 2) i ∧ x1.1 (d0 + 3) i = x.1 (s0 + 3) i ∧ x1.1 (d0 + 4) i = x.1 (s0 + 4) i := by
  refine lp_ok 16 (fun n b (s : mX) => f_X6_copy_L82 d0 s0 n b s) (fun j s => xF (fun q c => d0 < q ∧ q ≤ d0 + 4) x s ∧ ∀ i, i < j → s.1 (d0 + 1) i = x.1 (s0 + 1) i ∧ s.1 (d0 + 2) i = x.1 (s0 + 2) i ∧ s.1 (d0 + 3) i = x.1 (s0 + 3) i ∧ s.1 (d0 + 4) i = x.1 (s0 + 4) i) ?_ ?_ mF 0 x (by decide) (by decide) ⟨xF_rf _ _, fun i hi => by omega⟩
  · rintro n s ⟨h1, h2⟩
    show ∃ x1, f_X6_copy_L82 d0 s0 (n + 1) (nI 16) s = some x1 ∧ _
    rw [f_X6_copy_L82, if_pos (by decide)]
    exact ⟨s, rfl, h1, h2⟩
  · rintro n j s hj ⟨h1, h2⟩ ih
    show ∃ x1, f_X6_copy_L82 d0 s0 (n + 1) (nI j) s = some x1 ∧ _
    have hin : m_in (nI j) 16 = true := in_ok hj (by decide)
    rw [f_X6_copy_L82, if_neg (k16f hj), if_pos hin, if_pos hin, m_let, if_pos hin, if_pos hin, m_let, if_pos hin, if_pos hin, m_let, if_pos hin, if_pos hin, m_let, cl (by omega), nI_1]
    have o : ∀ k, 1 ≤ k → k ≤ 4 → s.1 (s0 + k) j = x.1 (s0 + k) j := fun k k1 k2 => h1.1 _ _ (by omega)
    refine ih _ ⟨xF_set (xF_set (xF_set (xF_set h1 (by omega)) (by omega)) (by omega)) (by omega), fun i hi => ?_⟩
    have ne : ∀ {a b : Nat} {z : mX} {v : Int32} {c : Nat}, a ≠ b → (m_xs z b c v).1 a = z.1 a := fun h => xs_ne h
    by_cases e : i = j
    · subst e
      refine ⟨?_, ?_, ?_, ?_⟩
      · rw [ne (by omega), ne (by omega), ne (by omega), xs_eq, o 1 (by decide) (by decide)]
      · rw [ne (by omega), ne (by omega), xs_eq, ne (by omega), o 2 (by decide) (by decide)]
      · rw [ne (by omega), xs_eq, ne (by omega), ne (by omega), o 3 (by decide) (by decide)]
      · rw [xs_eq, ne (by omega), ne (by omega), ne (by omega), o 4 (by decide) (by decide)]
    · obtain ⟨g1, g2, g3, g4⟩ := h2 i (by omega)
      refine ⟨?_, ?_, ?_, ?_⟩
      · rw [ne (by omega), ne (by omega), ne (by omega), xs_ec e, g1]
      · rw [ne (by omega), ne (by omega), xs_ec e, ne (by omega), g2]
      · rw [ne (by omega), xs_ec e, ne (by omega), ne (by omega), g3]
      · rw [xs_ec e, ne (by omega), ne (by omega), ne (by omega), g4]
/-- the first j numbers copied -/
def cpI (d0 s0 : Nat) (x : mX) (j : Nat) (z : mX) : Prop := (∀ q, q ≠ d0 → z.1 q = x.1 q) ∧ z.2 = x.2 ∧ ∀ c, c < j → z.1 d0 c = x.1 s0 c
theorem cp_step {d0 s0 j : Nat} {x z : mX} (hne : s0 ≠ d0) (h : cpI d0 s0 x j z) {Q : Option mX → Prop} (f : mX → Option mX) (k : ∀ z', cpI d0 s0 x (j + 1) z' → Q (f z')) : Q (m_let (m_xs z d0 j (z.1 s0 j)) f) := by
  refine k _ ⟨fun q hq => by rw [xs_ne hq]; exact h.1 q hq, h.2.1, fun c hc => ?_⟩
  by_cases e : c = j
  · subst e
    rw [xs_eq, h.1 s0 hne]
  · rw [xs_ec e]
    exact h.2.2 c (by omega)
/-- a state copied -/
theorem copy_ok {d0 s0 : Nat} (hds : d0 + 5 ≤ s0 ∨ s0 + 5 ≤ d0) (x : mX) (hW : sW σ np) (hR : sR x.1 s0 σ np rt) : ∃ x1, f_X6_copy d0 s0 x = some x1 ∧ xF (cpW d0) x x1 ∧ sR x1.1 d0 σ np rt := by
  have m16 := hW.2.2.1
  have hne : s0 ≠ d0 := by omega
  unfold f_X6_copy
  refine cp_step (Q := fun o => ∃ x1, o = some x1 ∧ xF (cpW d0) x x1 ∧ sR x1.1 d0 σ np rt) hne ⟨fun _ _ => rfl, rfl, fun c hc => by omega⟩ _ (fun z1 h1 => ?_)
  refine cp_step (Q := fun o => ∃ x1, o = some x1 ∧ xF (cpW d0) x x1 ∧ sR x1.1 d0 σ np rt) hne h1 _ (fun z2 h2 => ?_)
  refine cp_step (Q := fun o => ∃ x1, o = some x1 ∧ xF (cpW d0) x x1 ∧ sR x1.1 d0 σ np rt) hne h2 _ (fun z3 h3 => ?_)
  refine cp_step (Q := fun o => ∃ x1, o = some x1 ∧ xF (cpW d0) x x1 ∧ sR x1.1 d0 σ np rt) hne h3 _ (fun z4 h4 => ?_)
  refine cp_step (Q := fun o => ∃ x1, o = some x1 ∧ xF (cpW d0) x x1 ∧ sR x1.1 d0 σ np rt) hne h4 _ (fun z5 h5 => ?_)
  refine cp_step (Q := fun o => ∃ x1, o = some x1 ∧ xF (cpW d0) x x1 ∧ sR x1.1 d0 σ np rt) hne h5 _ (fun z6 h6 => ?_)
  refine cp_step (Q := fun o => ∃ x1, o = some x1 ∧ xF (cpW d0) x x1 ∧ sR x1.1 d0 σ np rt) hne h6 _ (fun z7 h7 => ?_)
  refine cp_step (Q := fun o => ∃ x1, o = some x1 ∧ xF (cpW d0) x x1 ∧ sR x1.1 d0 σ np rt) hne h7 _ (fun z8 h8 => ?_)
  refine cp_step (Q := fun o => ∃ x1, o = some x1 ∧ xF (cpW d0) x x1 ∧ sR x1.1 d0 σ np rt) hne h8 _ (fun z9 h9 => ?_)
  refine cp_step (Q := fun o => ∃ x1, o = some x1 ∧ xF (cpW d0) x x1 ∧ sR x1.1 d0 σ np rt) hne h9 _ (fun za ha => ?_)
  obtain ⟨x1, e1, w1, r1⟩ := copy_L hds za
  rw [e1]
  refine ⟨x1, rfl, ⟨fun q c hq => ?_, w1.2.trans ha.2.1⟩, ?_⟩
  · unfold cpW at hq
    rw [w1.1 q c (by omega), ha.1 q (by omega)]
  · obtain ⟨r0, r1', r2, r3, r4, r5, r6, r7, r8, r9, rl⟩ := hR
    have D : ∀ c, c < 10 → x1.1 d0 c = x.1 s0 c := fun c hc => (w1.1 d0 c (by omega)).trans (ha.2.2 c hc)
    refine ⟨(D 0 (by decide)).trans r0, (D 1 (by decide)).trans r1', (D 2 (by decide)).trans r2, (D 3 (by decide)).trans r3, (D 4 (by decide)).trans r4, (D 5 (by decide)).trans r5, (D 6 (by decide)).trans r6, (D 7 (by decide)).trans r7, (D 8 (by decide)).trans r8, (D 9 (by decide)).trans r9, fun l hl => ?_⟩
    obtain ⟨g1, g2, g3, g4⟩ := r1 l (by omega)
    rw [g1, g2, g3, g4, ha.1 _ (by omega), ha.1 _ (by omega), ha.1 _ (by omega), ha.1 _ (by omega)]
    exact rl l hl
end SQ
