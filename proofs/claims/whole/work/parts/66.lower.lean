/-! ===== need is never too much: each new link lessens it by one at most ===== -/
section Q3
variable {A : Nat → Nat → Prop} {V S : Nat → Prop} {a b : Nat}
/-- a link more -/
def aj (A : Nat → Nat → Prop) (a b : Nat) : Nat → Nat → Prop := fun p q => A p q ∨ (p = a ∧ q = b) ∨ (p = b ∧ q = a)
theorem aj_sy (hA : ∀ a b, A a b → A b a) : ∀ p q, aj A a b p q → aj A a b q p := fun p q h => by
  rcases h with h | h | h
  · exact Or.inl (hA _ _ h)
  · exact Or.inr (Or.inr ⟨h.2, h.1⟩)
  · exact Or.inr (Or.inl ⟨h.2, h.1⟩)
theorem aj_in {u v : Nat} (h : g_C A S u v) : g_C (aj A a b) S u v := g_less (fun _ _ k => Or.inl k) h
theorem aj_out (hA : ∀ a b, A a b → A b a) {u v : Nat} (h : g_C (aj A a b) S u v) : g_C A S u v ∨ (g_C A S u a ∧ g_C A S b v) ∨ (g_C A S u b ∧ g_C A S a v) := by
  refine g_ind (P := fun v => g_C A S u v ∨ (g_C A S u a ∧ g_C A S b v) ∨ (g_C A S u b ∧ g_C A S a v)) h (Or.inl (g_rf h.1)) ?_
  intro c d hc ih e hd
  have hSc : S c := g_in hc
  rcases e with e | ⟨rfl, rfl⟩ | ⟨rfl, rfl⟩
  · rcases ih with k | ⟨k1, k2⟩ | ⟨k1, k2⟩
    · exact Or.inl (g_st k e hd)
    · exact Or.inr (Or.inl ⟨k1, g_st k2 e hd⟩)
    · exact Or.inr (Or.inr ⟨k1, g_st k2 e hd⟩)
  · rcases ih with k | ⟨k1, k2⟩ | ⟨k1, k2⟩
    · exact Or.inr (Or.inl ⟨k, g_rf hd⟩)
    · exact Or.inr (Or.inl ⟨k1, g_rf hd⟩)
    · exact Or.inl k1
  · rcases ih with k | ⟨k1, k2⟩ | ⟨k1, k2⟩
    · exact Or.inr (Or.inr ⟨k, g_rf hd⟩)
    · exact Or.inl k1
    · exact Or.inr (Or.inr ⟨k1, g_rf hd⟩)
theorem aj_none {u v : Nat} (hab : ¬ S a ∨ ¬ S b) (h : g_C (aj A a b) S u v) : g_C A S u v := by
  refine g_ind h (g_rf h.1) (fun c d hc ih e hd => ?_)
  rcases e with e | ⟨rfl, rfl⟩ | ⟨rfl, rfl⟩
  · exact g_st ih e hd
  · exact absurd hd (fun z => hab.elim (fun k => k (g_in hc)) (fun k => k z))
  · exact absurd hd (fun z => hab.elim (fun k => k z) (fun k => k (g_in hc)))
/-- one link more: one piece less at most -/
theorem aj_n (hA : ∀ a b, A a b → A b a) (hS : ∀ c, S c → c < 8) : g_n (g_L A S) 8 ≤ g_n (g_L (aj A a b) S) 8 + 1 := by
  have e := g_n_split (P := g_L A S) (Q := g_L (aj A a b) S) 8
  have h1 : g_n (fun c => g_L A S c ∧ g_L (aj A a b) S c) 8 ≤ g_n (g_L (aj A a b) S) 8 := g_n_le 8 (fun c _ h => h.2)
  have h2 : g_n (fun c => g_L A S c ∧ ¬ g_L (aj A a b) S c) 8 ≤ 1 := by
    refine g_n_atmost 8 (fun i j _ _ hi hj => ?_)
    have key : ∀ i, (g_L A S i ∧ ¬ g_L (aj A a b) S i) → ∃ k, k < i ∧ ((g_C A S i a ∧ g_C A S b k) ∨ (g_C A S i b ∧ g_C A S a k)) := by
      rintro i ⟨h1, h2⟩
      have : ∃ k, k < i ∧ g_C (aj A a b) S i k := Classical.byContradiction fun hc => h2 ⟨h1.1, fun k hk hck => hc ⟨k, hk, hck⟩⟩
      obtain ⟨k, k1, k2⟩ := this
      rcases aj_out hA k2 with z | z | z
      · exact absurd z (h1.2 k k1)
      · exact ⟨k, k1, Or.inl z⟩
      · exact ⟨k, k1, Or.inr z⟩
    obtain ⟨k, k1, k2⟩ := key i hi
    obtain ⟨l, l1, l2⟩ := key j hj
    rcases k2 with ⟨x1, x2⟩ | ⟨x1, x2⟩ <;> rcases l2 with ⟨y1, y2⟩ | ⟨y1, y2⟩
    · exact g_L_un hA hi.1 hj.1 (g_tr x1 (g_sy hA y1))
    · exfalso
      have e1 : ¬ k < j := fun z => hj.1.2 k z (g_tr y1 x2)
      have e2 : ¬ l < i := fun z => hi.1.2 l z (g_tr x1 y2)
      omega
    · exfalso
      have e1 : ¬ k < j := fun z => hj.1.2 k z (g_tr y1 x2)
      have e2 : ¬ l < i := fun z => hi.1.2 l z (g_tr x1 y2)
      omega
    · exact g_L_un hA hi.1 hj.1 (g_tr x1 (g_sy hA y1))
  omega
/-- m links more -/
def am (A : Nat → Nat → Prop) (x y : Nat → Nat) : Nat → Nat → Nat → Prop
  | 0 => A
  | m + 1 => aj (am A x y m) (x m) (y m)
theorem am_sy (hA : ∀ a b, A a b → A b a) (x y : Nat → Nat) : ∀ m p q, am A x y m p q → am A x y m q p
  | 0 => hA
  | m + 1 => aj_sy (am_sy hA x y m)
theorem am_iff (x y : Nat → Nat) : ∀ m p q, am A x y m p q ↔ A p q ∨ ∃ j, j < m ∧ ((p = x j ∧ q = y j) ∨ (p = y j ∧ q = x j))
  | 0, p, q => ⟨Or.inl, fun h => h.elim id (fun ⟨j, hj, _⟩ => by omega)⟩
  | m + 1, p, q => by
    show (am A x y m p q ∨ _) ↔ _
    rw [am_iff x y m p q]
    constructor
    · rintro ((h | ⟨j, j1, j2⟩) | h)
      · exact Or.inl h
      · exact Or.inr ⟨j, by omega, j2⟩
      · exact Or.inr ⟨m, by omega, h⟩
    · rintro (h | ⟨j, j1, j2⟩)
      · exact Or.inl (Or.inl h)
      · by_cases e : j = m
        · subst e; exact Or.inr j2
        · exact Or.inl (Or.inr ⟨j, by omega, j2⟩)
theorem am_n (hA : ∀ a b, A a b → A b a) (hS : ∀ c, S c → c < 8) (x y : Nat → Nat) : ∀ m, g_n (g_L A S) 8 ≤ g_n (g_L (am A x y m) S) 8 + m
  | 0 => Nat.le_refl _
  | m + 1 => by
    have h1 := am_n hA hS x y m
    have h2 := aj_n (a := x m) (b := y m) (am_sy hA x y m) hS
    show _ ≤ g_n (g_L (aj (am A x y m) (x m) (y m)) S) 8 + (m + 1)
    omega
theorem g_n_add {P : Nat → Prop} (a : Nat) : ∀ b, g_n P (a + b) = g_n P a + g_n (fun i => P (a + i)) b
  | 0 => rfl
  | b + 1 => by
    show g_n P (a + b + 1) = _
    by_cases c : P (a + b)
    · rw [g_n_step (a + b) c, g_n_step (P := fun i => P (a + i)) b c, g_n_add a b]; omega
    · rw [g_n_stay (a + b) c, g_n_stay (P := fun i => P (a + i)) b c, g_n_add a b]
theorem sme_eq : ∀ j, sme A V j = g_n (fun k => en A V (k / 8) (k % 8)) (8 * j)
  | 0 => rfl
  | j + 1 => by
    rw [sme, sme_eq j, show 8 * (j + 1) = 8 * j + 8 by omega, g_n_add]
    congr 1
    refine g_n_cong 8 (fun i hi => ?_)
    rw [show (8 * j + i) / 8 = j by omega, show (8 * j + i) % 8 = i by omega]
theorem mxw_le {k : Nat} : ∀ j, (∀ p, p < j → g_K A V p → dw A V p ≤ k) → mxw A V j ≤ k
  | 0, _ => Nat.zero_le _
  | j + 1, h => by
    rw [mxw]
    have ih := mxw_le j (fun p hp => h p (by omega))
    by_cases c : g_K A V j
    · rw [if_pos c]
      have := h j (by omega) c
      omega
    · rw [if_neg c]; exact ih
theorem mxw_ge {p : Nat} (hk : g_K A V p) : ∀ j, p < j → dw A V p ≤ mxw A V j
  | 0, h => by omega
  | j + 1, h => by
    rw [mxw]
    by_cases e : p = j
    · subst e; rw [if_pos hk]; omega
    · have := mxw_ge hk j (by omega)
      by_cases c : g_K A V j
      · rw [if_pos c]; omega
      · rw [if_neg c]; exact this
/-- an end lies in the piece of its cut -/
theorem en_p (hN : g_N A V) {p i w : Nat} (h : en A V p i) (hw : g_C A (g_D V p) i w) : g_C A V p w := by
  obtain ⟨h1, h2, h3, u, u1, u2⟩ := h
  exact g_fr u2 h1.1 (g_out (g_tr (g_sy hN.1 u1) hw))
/-- ends share no post -/
theorem en_dj (hN : g_N A V) {p i q j w : Nat} (h : en A V p i) (k : en A V q j) (hw : g_C A (g_D V p) i w) (kw : g_C A (g_D V q) j w) : p = q ∧ i = j := by
  have hA := hN.1
  obtain ⟨h1, h2, h3, u, u1, u2⟩ := id h
  obtain ⟨k1, k2, k3, v, v1, v2⟩ := id k
  have epq : p = q := by
    refine Classical.byContradiction fun hne => ?_
    -- q is not in the part beside p, nor p in the one beside q
    have nq : ¬ g_C A (g_D V p) i q := fun z => h3 q z k1
    have np : ¬ g_C A (g_D V q) j p := fun z => k3 p z h1
    have sub : ∀ z, g_C A (g_D V p) i z → g_C A (g_D V q) j z := fun z hz => by
      have t : g_C A (g_D V p) w z := g_tr (g_sy hA hw) hz
      have wq : w ≠ q := (g_in kw).2
      rcases g_one (y := q) t wq with r | r
      · exact g_tr kw (g_mo r (fun c hc => ⟨hc.1.1, hc.2⟩))
      · exact absurd (g_tr hw r) nq
    exact np (g_st (sub u u1) (hA _ _ u2) ⟨h1.1, hne⟩)
  subst epq
  exact ⟨rfl, g_L_un hA h2 k2 (g_tr hw (g_sy hA kw))⟩
/-- a part beside a cut is met by a new link -/
theorem en_met (hN : g_N A V) {x y : Nat → Nat} {m : Nat} (hT : g_T (am A x y m) V) {p i : Nat} (h : en A V p i) : ∃ t, t < 2 * m ∧ g_C A (g_D V p) i (if t % 2 = 0 then x (t / 2) else y (t / 2)) := by
  have hA := hN.1
  obtain ⟨h1, h2, h3, u, u1, u2⟩ := id h
  obtain ⟨_, v, v', w1, w2, w3, w4, w5, w6, w7⟩ := id h1
  -- one beyond
  obtain ⟨z, z1, z2, z3⟩ : ∃ z, V z ∧ z ≠ p ∧ ¬ g_C A (g_D V p) i z := by
    by_cases c : g_C A (g_D V p) i v
    · exact ⟨v', w4, w6, fun k => w7 (g_tr (g_sy hA c) k)⟩
    · exact ⟨v, w3, w5, c⟩
  refine Classical.byContradiction fun hc => z3 ?_
  have iV := h2.1
  refine g_ind (P := fun c => g_C A (g_D V p) i c) (hT.2 p i z iV.1 z1 iV.2 z2) (g_rf iV) (fun c d hcc ih e hd => ?_)
  rcases (am_iff x y m c d).mp e with e | ⟨j, j1, j2⟩
  · exact g_st ih e hd
  · exfalso
    rcases j2 with ⟨e1, _⟩ | ⟨e1, _⟩
    · exact hc ⟨2 * j, by omega, by rw [if_pos (by omega), show 2 * j / 2 = j by omega, ← e1]; exact ih⟩
    · exact hc ⟨2 * j + 1, by omega, by rw [if_neg (by omega), show (2 * j + 1) / 2 = j by omega, ← e1]; exact ih⟩
end Q3
