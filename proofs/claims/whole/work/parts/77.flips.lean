/-! ===== grow: the class's try of a link ===== -/
section R6
variable {A A' : Nat → Nat → Prop} {P : Int32} {a b : Nat}
/-- the grower holds the net A on the posts P -/
def ga (x : mX) (A : Nat → Nat → Prop) (P : Int32) : Prop := x.1 258 0 = P ∧ (∀ p, p < 8 → ∀ q, bt (x.1 259 p) q = true ↔ A p q) ∧ n_div x.1 258 P A
theorem ga_need {x : mX} (h8 : b8 P) (hN : g_N A (bS P)) (h : ga x A P) : f_X1_need x = some (nI (nd A (bS P))) := need_ok x h8 h.1 hN h.2.1 h.2.2
/-- divide out of the rows -/
theorem ga_divide (x : mX) (h8 : b8 P) (hN : g_N A (bS P)) (hP : x.1 258 0 = P) (hr : ∀ p, p < 8 → ∀ q, bt (x.1 259 p) q = true ↔ A p q) : ∃ x', f_X3_divide 258 x = some x' ∧ xW (fun q => q = 260 ∨ q = 262) x x' ∧ ga x' A P := by
  have e : nA (x.1 259) = A := by
    funext p q
    apply propext
    constructor
    · rintro ⟨h1, _, h3⟩
      exact (hr p h1 q).mp h3
    · intro h
      have k := hN.2.1 p q h
      exact ⟨hN.2.2 p k.1, hN.2.2 q k.2.1, (hr p (hN.2.2 p k.1) q).mpr h⟩
  obtain ⟨x', e1, hW, hD⟩ := divide_ok (a := 258) (Or.inr (Or.inr rfl)) x (by rw [hP]; exact h8) (by
    show ∀ c d, nA (x.1 259) c d → nA (x.1 259) d c
    rw [e]; exact hN.1)
  refine ⟨x', e1, hW, ?_, ?_, ?_⟩
  · rw [hW.1 258 (by omega)]; exact hP
  · rw [hW.1 259 (by omega)]; exact hr
  · have hD' : n_div x'.1 258 (x.1 258 0) (nA (x.1 259)) := hD
    rw [e, hP] at hD'
    exact hD'
theorem flip_gen (x : mX) (h8 : b8 P) (hN' : g_N A' (bS P)) (h : ga x A P) (ha : a < 8) (hb : b < 8) (hab : a ≠ b) (hX : ∀ p q, ((p = a ∧ q = b) ∨ (p = b ∧ q = a) → (A' p q ↔ ¬ A p q)) ∧ (¬ ((p = a ∧ q = b) ∨ (p = b ∧ q = a)) → (A' p q ↔ A p q))) : ∃ x', f_X1_flip (nI a) (nI b) x = some x' ∧ xW (fun q => q = 259 ∨ q = 260 ∨ q = 262) x x' ∧ ga x' A' P := by
  rw [f_X1_flip, if_pos (in_ok ha (by decide)), if_pos (in_ok ha (by decide)), cl (by omega), m_let, if_pos (in_ok hb (by decide)), if_pos (in_ok hb (by decide)), cl (by omega), m_let]
  have hxor : ∀ (r : Int32) (n q : Nat), n < 8 → (bt (r ^^^ ((1 : Int32) <<< (nI n &&& 31))) q = true ↔ ((q = n ∧ ¬ bt r q = true) ∨ (q ≠ n ∧ bt r q = true))) := fun r n q hn => by
    rw [b_xor, b_bit (by omega)]
    by_cases e : q = n
    · cases hr : bt r q <;> simp [e]
    · cases hr : bt r q <;> simp [e]
  obtain ⟨x', e1, hW, hg⟩ := ga_divide (A := A') (P := P) (m_xs (m_xs x 259 a ((x.1 259 a) ^^^ ((1 : Int32) <<< (nI b &&& 31)))) 259 b (((m_xs x 259 a ((x.1 259 a) ^^^ ((1 : Int32) <<< (nI b &&& 31)))).1 259 b) ^^^ ((1 : Int32) <<< (nI a &&& 31)))) h8 hN' (by
      rw [xs_ne (by decide), xs_ne (by decide)]; exact h.1) (by
    intro p hp q
    have hr := h.2.1 p hp q
    by_cases epb : p = b
    · subst epb
      rw [xs_eq, xs_ec (Ne.symm hab), hxor _ _ _ ha, hr]
      by_cases eq : q = a
      · have k := (hX p q).1 (Or.inr ⟨rfl, eq⟩)
        rw [k]
        exact ⟨fun z => z.elim (fun z => z.2) (fun z => absurd eq z.1), fun z => Or.inl ⟨eq, z⟩⟩
      · have k := (hX p q).2 (by rintro (⟨z, _⟩ | ⟨_, z⟩); exact hab z.symm; exact eq z)
        rw [k]
        exact ⟨fun z => z.elim (fun z => absurd z.1 eq) (fun z => z.2), fun z => Or.inr ⟨eq, z⟩⟩
    · rw [xs_ec epb]
      by_cases epa : p = a
      · subst epa
        rw [xs_eq, hxor _ _ _ hb, hr]
        by_cases eq : q = b
        · have k := (hX p q).1 (Or.inl ⟨rfl, eq⟩)
          rw [k]
          exact ⟨fun z => z.elim (fun z => z.2) (fun z => absurd eq z.1), fun z => Or.inl ⟨eq, z⟩⟩
        · have k := (hX p q).2 (by rintro (⟨_, z⟩ | ⟨z, _⟩); exact eq z; exact epb z)
          rw [k]
          exact ⟨fun z => z.elim (fun z => absurd z.1 eq) (fun z => z.2), fun z => Or.inr ⟨eq, z⟩⟩
      · rw [xs_ec epa, hr]
        exact ((hX p q).2 (by rintro (⟨z, _⟩ | ⟨z, _⟩); exact epa z; exact epb z)).symm)
  rw [e1]
  refine ⟨x', rfl, ?_, hg⟩
  exact xW_tr (xW_set (xW_set (xW_rf _ x) (Or.inl rfl)) (Or.inl rfl)) (xW_mo hW (fun q hq => Or.inr hq))
theorem helps_ok (x : mX) (h8 : b8 P) (hN : g_N A (bS P)) (h : ga x A P) (ha : bS P a) (hb : bS P b) (hab : a ≠ b) (hn : ¬ A a b) {k : Nat} (hk : k < 1000) : ∃ x', f_X1_helps (nI a) (nI b) (nI k) x = some (if nd (aj A a b) (bS P) < k then 1 else 0, x') ∧ xW (fun q => q = 259 ∨ q = 260 ∨ q = 262) x x' ∧ ga x' (if nd (aj A a b) (bS P) < k then aj A a b else A) P := by
  have a8 := hN.2.2 a ha
  have b8' := hN.2.2 b hb
  have hN' := aj_N hN ha hb hab
  have hn' : ¬ A b a := fun z => hn (hN.1 _ _ z)
  have fwd : ∀ p q, ((p = a ∧ q = b) ∨ (p = b ∧ q = a) → (aj A a b p q ↔ ¬ A p q)) ∧ (¬ ((p = a ∧ q = b) ∨ (p = b ∧ q = a)) → (aj A a b p q ↔ A p q)) := fun p q => ⟨fun z => ⟨fun _ => by
      rcases z with ⟨rfl, rfl⟩ | ⟨rfl, rfl⟩
      · exact hn
      · exact hn', fun _ => Or.inr z⟩, fun z => ⟨fun y => y.resolve_right z, Or.inl⟩⟩
  obtain ⟨x1, e1, w1, g1⟩ := flip_gen x h8 hN' h a8 b8' hab fwd
  have nlt : nd (aj A a b) (bS P) < 1000 := by
    have h1 := mxw_8 (A := aj A a b) (V := bS P) 8
    have h2 := sme_8 (A := aj A a b) (V := bS P) 8
    have h3 := g_n_bound (P := al (aj A a b) (bS P)) 8
    have h4 := g_n_bound (P := g_L (aj A a b) (bS P)) 8
    unfold nd
    split
    · omega
    · split <;> omega
  rw [f_X1_helps, e1, Option.bind_some, ga_need h8 hN' g1, Option.bind_some]
  by_cases c : nd (aj A a b) (bS P) < k
  · rw [if_neg (nI_ge c (by omega)), if_pos c, if_pos c]
    exact ⟨x1, rfl, w1, g1⟩
  · obtain ⟨x2, e2, w2, g2⟩ := flip_gen x1 h8 hN g1 a8 b8' hab (A' := A) (fun p q => ⟨fun z => ⟨fun y => by
      rcases z with ⟨rfl, rfl⟩ | ⟨rfl, rfl⟩
      · exact absurd y hn
      · exact absurd y hn', fun y => absurd (Or.inr z) y⟩, fun z => ((fwd p q).2 z).symm⟩)
    rw [if_pos ((nI_leI (by omega) (by omega)).mpr (show k ≤ nd (aj A a b) (bS P) by omega)), e2, Option.bind_some, if_neg c, if_neg c]
    exact ⟨x2, rfl, xW_tr w1 w2, g2⟩
end R6
