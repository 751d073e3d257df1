/-! ===== ways ===== -/
section W1
variable {A : Nat → Nat → Prop} {V : Nat → Prop}
/-- the hop of v by the root r, in the colour c -/
def hp (A : Nat → Nat → Prop) (V : Nat → Prop) (c r v u : Nat) : Prop := ∃ n p t f rd bl, tb_ok A V r v n p t f rd bl ∧ u = if c = 0 then rd else bl
theorem hp_un (hN : g_N A V) {c r v u u' : Nat} (h : hp A V c r v u) (h' : hp A V c r v u') : u = u' := by
  obtain ⟨n, p, t, f, rd, bl, h1, h2⟩ := h
  obtain ⟨n', p', t', f', rd', bl', k1, k2⟩ := h'
  have e := tb_un hN h1 k1
  rw [h2, k2, e.2.2.2.1, e.2.2.2.2.1]
theorem hp_A (hN : g_N A V) {c r v u : Nat} (h : hp A V c r v u) : A v u ∧ v ≠ r ∧ v < 8 ∧ u < 8 := by
  obtain ⟨n, p, t, f, rd, bl, h1, h2⟩ := h
  have a := tb_A hN h1
  have hA : A v u := by
    rw [h2]
    by_cases c0 : c = 0
    · rw [if_pos c0]; exact a.1
    · rw [if_neg c0]; exact a.2
  exact ⟨hA, h1.2.1, hN.2.2 v (hN.2.1 _ _ hA).1, hN.2.2 u (hN.2.1 _ _ hA).2.1⟩
/-- d hops from v to r -/
def wy (A : Nat → Nat → Prop) (V : Nat → Prop) (c r : Nat) : Nat → Nat → Prop
  | 0, v => v = r ∧ V r
  | d + 1, v => ∃ u, hp A V c r v u ∧ wy A V c r d u
theorem wy_un (hN : g_N A V) {c r : Nat} : ∀ d e v, wy A V c r d v → wy A V c r e v → d = e
  | 0, 0, _, _, _ => rfl
  | 0, e + 1, v, h, ⟨u, k, _⟩ => absurd h.1 (hp_A hN k).2.1
  | d + 1, 0, v, ⟨u, k, _⟩, h => absurd h.1 (hp_A hN k).2.1
  | d + 1, e + 1, v, ⟨u, k1, k2⟩, ⟨u', l1, l2⟩ => by
    rw [hp_un hN l1 k1] at l2
    rw [wy_un hN d e u k2 l2]
theorem wy_V (hN : g_N A V) {c r d v : Nat} (h : wy A V c r d v) : V v := by
  cases d with
  | zero => rw [h.1]; exact h.2
  | succ d => obtain ⟨u, k, _⟩ := h; exact (hN.2.1 _ _ (hp_A hN k).1).1
theorem wy_sub {c r : Nat} : ∀ d v, wy A V c r d v → ∀ j, j ≤ d → ∃ u, wy A V c r j u
  | 0, v, h, j, hj => ⟨v, by rw [show j = 0 by omega]; exact h⟩
  | d + 1, v, h, j, hj => by
    by_cases e : j = d + 1
    · exact ⟨v, by rw [e]; exact h⟩
    · obtain ⟨u, _, k⟩ := h
      exact wy_sub d u k j (by omega)
theorem wy_le (hN : g_N A V) {c r d v : Nat} (h : wy A V c r d v) : d ≤ 7 := by
  have k : g_n (fun j => j < d + 1) (d + 1) ≤ 8 := g_n_php (d + 1) (fun j u => wy A V c r j u) (fun a b u _ _ h1 h2 => wy_un hN a b u h1 h2) 8 _ (fun j hj _ => by
    obtain ⟨u, hu⟩ := wy_sub d v h j (by omega)
    exact ⟨u, hN.2.2 u (wy_V hN hu), hu⟩)
  rw [g_n_below (d + 1) (Nat.le_refl _)] at k
  omega
/-- from any post of a block a way leads to its head -/
theorem wy_block (hN : g_N A V) {c r v p t n : Nat} {f : Nat → Nat} (h1 : g_C A V v r) (h2 : v ≠ r) (h3 : g_H A V r v p) (hn : n < 256) (hnb : ∀ i, bt (nI n) i = true ↔ g_B A V v p i) (hla : la_t A (g_B A V v p) p t) (ho : od_1 A (g_B A V v p) p t (g_n (g_B A V v p) 8) f) (hp0 : ∃ d, wy A V c r d p) : ∀ i, i < g_n (g_B A V v p) 8 → ∃ d, wy A V c r d (f i) := by
  have b := tb_B hN h1 h2 h3
  have hne : ∀ i, 0 < i → i < g_n (g_B A V v p) 8 → f i ≠ p := fun i hi hi2 e => by
    have := ho.1.2.2.2.2.1 i 0 hi2 (by omega) (e.trans ho.1.2.1.symm)
    omega
  have hop : ∀ i, 0 < i → i < g_n (g_B A V v p) 8 → ∃ rd bl, tb_ok A V r (f i) n p t f rd bl := fun i hi hi2 => by
    obtain ⟨rd, bl, k, _⟩ := tb_of hN h1 h2 h3 hn hnb hla ho (ho.1.2.2.2.1 i hi2) (hne i hi hi2)
    exact ⟨rd, bl, k⟩
  have same : ∀ i, 0 < i → i < g_n (g_B A V v p) 8 → g_B A V (f i) p = g_B A V v p := fun i hi hi2 => (tb_same hN h1 h2 h3 (ho.1.2.2.2.1 i hi2) (hne i hi hi2)).2.2.2
  by_cases c0 : c = 0
  · have key : ∀ k i, i ≤ k → i < g_n (g_B A V v p) 8 → ∃ d, wy A V c r d (f i) := by
      intro k
      induction k with
      | zero => intro i hi _; rw [show i = 0 by omega, ho.1.2.1]; exact hp0
      | succ k ih =>
        intro i hi hi2
        by_cases e : i = 0
        · rw [e, ho.1.2.1]; exact hp0
        · obtain ⟨rd, bl, tb⟩ := hop i (by omega) hi2
          obtain ⟨j, j1, j2⟩ := hp_r_ex hN.1 (fun a b k => (hN.2.1 a b k).2.2) b.1 ho.1 ho.2.1 hla.1 (i0 := i) (by omega) hi2
          have k1 := tb.2.2.2.2.2.2.2.1
          rw [same i (by omega) hi2] at k1
          have er : rd = f j := hp_r_un (fun _ _ => rfl) k1 j2
          obtain ⟨d, hd⟩ := ih j (by omega) (by omega)
          exact ⟨d + 1, f j, ⟨n, p, t, f, rd, bl, tb, by rw [if_pos c0, er]⟩, hd⟩
    exact fun i hi => key i i (Nat.le_refl _) hi
  · have key : ∀ k i, g_n (g_B A V v p) 8 - i ≤ k → i < g_n (g_B A V v p) 8 → ∃ d, wy A V c r d (f i) := by
      intro k
      induction k with
      | zero => intro i hi hi2; omega
      | succ k ih =>
        intro i hi hi2
        by_cases e : i = 0
        · rw [e, ho.1.2.1]; exact hp0
        · obtain ⟨rd, bl, tb⟩ := hop i (by omega) hi2
          have k1 := tb.2.2.2.2.2.2.2.2
          rw [same i (by omega) hi2] at k1
          rcases hp_b_ex ho.1 ho.2.1 (i0 := i) (by omega) hi2 with ⟨_, j2⟩ | ⟨_, j, j1, j3, j2⟩
          · have er : bl = p := hp_b_un (fun _ _ => rfl) k1 j2
            obtain ⟨d, hd⟩ := hp0
            exact ⟨d + 1, p, ⟨n, p, t, f, rd, bl, tb, by rw [if_neg c0, er]⟩, hd⟩
          · have er : bl = f j := hp_b_un (fun _ _ => rfl) k1 j2
            obtain ⟨d, hd⟩ := ih j (by omega) j3
            exact ⟨d + 1, f j, ⟨n, p, t, f, rd, bl, tb, by rw [if_neg c0, er]⟩, hd⟩
    exact fun i hi => key _ i (Nat.le_refl _) hi
theorem wy_ex (hN : g_N A V) {c r v : Nat} (h1 : g_C A V v r) : ∃ d, wy A V c r d v := by
  have hVr : V r := g_in h1
  by_cases h2 : v = r
  · exact ⟨0, h2, hVr⟩
  have claim : ∀ n v, g_C A V v r → v ≠ r → (∀ p, g_H A V r v p → p ≠ r → g_n (fun c => g_C A (g_D V p) r c) 8 < n) → ∃ d, wy A V c r d v := by
    intro n
    induction n with
    | zero =>
      intro v h1 h2 h
      obtain ⟨n, p, t, f, rd, bl, tb⟩ := tb_ex hN h1 h2
      have b := tb_B hN h1 h2 tb.2.2.1
      have hpr : p = r := Classical.byContradiction fun z => by have := h p tb.2.2.1 z; omega
      obtain ⟨i, i1, i2⟩ := tb.2.2.2.2.2.2.1.1.2.2.2.2.2 v b.2.1
      have := wy_block (c := c) hN h1 h2 tb.2.2.1 tb.2.2.2.1 tb.2.2.2.2.1 tb.2.2.2.2.2.1 tb.2.2.2.2.2.2.1 ⟨0, hpr, hVr⟩ i i1
      rw [i2] at this
      exact this
    | succ n ih =>
      intro v h1 h2 h
      obtain ⟨n', p, t, f, rd, bl, tb⟩ := tb_ex hN h1 h2
      have b := tb_B hN h1 h2 tb.2.2.1
      have hp0 : ∃ d, wy A V c r d p := by
        by_cases hpr : p = r
        · exact ⟨0, hpr, hVr⟩
        · have hK := h p tb.2.2.1 hpr
          have hcp : g_C A V p r := g_tr (g_sy hN.1 (g_H_M h2 tb.2.2.1).1.1) h1
          refine ih p hcp hpr (fun q hq hqr => ?_)
          have near := g_H_near hN.1 hcp hpr hq
          have := g_n_lt (P := fun c => g_C A (g_D V q) r c) (Q := fun c => g_C A (g_D V p) r c) 8 q (hN.2.2 q (g_in near.2).1) (fun c _ hc => near.1 c ⟨hc, hqr⟩) near.2 (fun k => (g_in k).2 rfl)
          omega
      obtain ⟨i, i1, i2⟩ := tb.2.2.2.2.2.2.1.1.2.2.2.2.2 v b.2.1
      have := wy_block (c := c) hN h1 h2 tb.2.2.1 tb.2.2.2.1 tb.2.2.2.2.1 tb.2.2.2.2.2.1 tb.2.2.2.2.2.2.1 hp0 i i1
      rw [i2] at this
      exact this
  exact claim 9 v h1 h2 (fun p _ _ => by have := g_n_bound (P := fun c => g_C A (g_D V p) r c) 8; omega)
/-- what way(.., i) answers, at v, h hops gone -/
def wr (A : Nat → Nat → Prop) (V : Nat → Prop) (c r : Nat) (i : Int32) : Nat → Nat → Nat → Int32 → Prop
  | 0, _, h, res => res = if i = -1 then nI h else -1
  | d + 1, v, h, res => ∃ u, hp A V c r v u ∧ ((i = nI h ∧ res = nI u) ∨ (i ≠ nI h ∧ wr A V c r i d u (h + 1) res))
theorem wr_un (hN : g_N A V) {c r : Nat} {i : Int32} : ∀ d v h res res', wr A V c r i d v h res → wr A V c r i d v h res' → res = res'
  | 0, _, _, _, _, h1, h2 => h1.trans h2.symm
  | d + 1, v, h, res, res', ⟨u, k1, k2⟩, ⟨u', l1, l2⟩ => by
    have e := hp_un hN l1 k1
    subst e
    rcases k2 with ⟨a, b⟩ | ⟨a, b⟩
    · rcases l2 with ⟨c, d⟩ | ⟨c, d⟩
      · rw [b, d]
      · exact absurd a c
    · rcases l2 with ⟨c, d⟩ | ⟨c, d⟩
      · exact absurd c a
      · exact wr_un hN _ _ _ _ _ b d
/-- w is on the way from v, v itself, but not r -/
def wo (A : Nat → Nat → Prop) (V : Nat → Prop) (c r : Nat) : Nat → Nat → Nat → Prop
  | 0, _, _ => False
  | d + 1, v, w => w = v ∨ ∃ u, hp A V c r v u ∧ wo A V c r d u w
theorem wo_wy (hN : g_N A V) {c r : Nat} : ∀ d v w, wy A V c r d v → wo A V c r d v w → ∃ e, e ≤ d ∧ wy A V c r e w
  | 0, _, _, _, h => h.elim
  | d + 1, v, w, h, k => by
    rcases k with e | ⟨u, u1, u2⟩
    · rw [e]; exact ⟨d + 1, Nat.le_refl _, h⟩
    · obtain ⟨u', l1, l2⟩ := h
      rw [hp_un hN l1 u1] at l2
      obtain ⟨e, e1, e2⟩ := wo_wy hN d u w l2 u2
      exact ⟨e, by omega, e2⟩
end W1
/-! the class -/
section W2
variable {σ : Nat → Int32} {P L : Int32} {np : Nat}
theorem ct_hop (hN : s_N σ np P L) {X : Nat → Nat → Int32} {r : Nat} (hr : r < 8) (ht : ct_r X σ P L r) {c v u : Nat} (hc : c < 2) (h : hp (sA σ L) (bS P) c r v u) : X 238 (c * 64 + (r * 8 + v)) = nI u ∧ ∃ l, bt L l = true ∧ sE σ l v u ∧ X 239 (c * 64 + (r * 8 + v)) = nI l := by
  have a := hp_A hN.2.1 h
  obtain ⟨n, p, t, f, rd, bl, h1, h2⟩ := h
  rcases ht v a.2.2.1 with ⟨n', p', t', f', rd', bl', k1, k2⟩ | ⟨k1, _⟩
  · have e := tb_un hN.2.1 k1 h1
    obtain ⟨c1, c2, c3, c4, c5, c6⟩ := k2
    by_cases c0 : c = 0
    · subst c0
      rw [h2, if_pos rfl, ← e.2.2.2.1]
      exact ⟨c3, c5⟩
    · have : c = 1 := by omega
      subst this
      rw [h2, if_neg c0, ← e.2.2.2.2.1]
      exact ⟨c4, c6⟩
  · exact absurd ⟨h1.1, h1.2.1⟩ k1
theorem along_L (hN : s_N σ np P L) {r c : Nat} (hr : r < 8) (hc : c < 2) (i : Int32) (x : mX) (ht : ct_r x.1 σ P L r) : ∀ d v h n, wy (sA σ L) (bS P) c r d v → h + d ≤ 7 → d < n → ∃ res, f_X7_along_L9 (nI r) (nI c) i n (nI v) (nI h) (nI h) x = some res ∧ wr (sA σ L) (bS P) c r i d v h res := by
  intro d
  induction d with
  | zero =>
    intro v h n hw hd hn
    cases n with
    | zero => omega
    | succ n =>
      rw [f_X7_along_L9, if_neg (k8f (by omega)), if_pos (by rw [hw.1])]
      by_cases e : i = -1
      · rw [if_pos e]; exact ⟨_, rfl, by show _ = _; rw [if_pos e]⟩
      · rw [if_neg e]; exact ⟨_, rfl, by show _ = _; rw [if_neg e]⟩
  | succ d ih =>
    intro v h n hw hd hn
    obtain ⟨u, u1, u2⟩ := hw
    have a := hp_A hN.2.1 u1
    cases n with
    | zero => omega
    | succ n =>
      rw [f_X7_along_L9, if_neg (k8f (by omega)), if_neg (fun z => a.2.1 ((nI_eq (by omega) (by omega)).mp z)), if_neg (nI_m1 (by omega)), next_ok hr a.2.2.1 hc, Option.bind_some, (ct_hop hN hr ht hc u1).1]
      by_cases e : nI h = i
      · rw [if_pos e]
        exact ⟨_, rfl, u, u1, Or.inl ⟨e.symm, rfl⟩⟩
      · rw [if_neg e, nI_1]
        obtain ⟨res, r1, r2⟩ := ih u (h + 1) n u2 (by omega) (by omega)
        exact ⟨res, r1, u, u1, Or.inr ⟨Ne.symm e, r2⟩⟩
theorem passed_L (hN : s_N σ np P L) {r c : Nat} (hr : r < 8) (hc : c < 2) (x : mX) (ht : ct_r x.1 σ P L r) : ∀ d v h n s, wy (sA σ L) (bS P) c r d v → h + d ≤ 7 → d < n → ∃ res, f_X7_passed_L9 (nI r) (nI c) n (nI v) s (nI h) x = some res ∧ ∀ w, bt res w = true ↔ bt s w = true ∨ wo (sA σ L) (bS P) c r d v w := by
  intro d
  induction d with
  | zero =>
    intro v h n s hw hd hn
    cases n with
    | zero => omega
    | succ n =>
      rw [f_X7_passed_L9, if_neg (k8f (by omega)), if_pos (by rw [hw.1])]
      exact ⟨s, rfl, fun w => ⟨Or.inl, fun z => z.elim id (fun k => k.elim)⟩⟩
  | succ d ih =>
    intro v h n s hw hd hn
    obtain ⟨u, u1, u2⟩ := hw
    have a := hp_A hN.2.1 u1
    cases n with
    | zero => omega
    | succ n =>
      rw [f_X7_passed_L9, if_neg (k8f (by omega)), if_neg (fun z => a.2.1 ((nI_eq (by omega) (by omega)).mp z)), if_neg (nI_m1 (by omega)), next_ok hr a.2.2.1 hc, Option.bind_some, (ct_hop hN hr ht hc u1).1, nI_1]
      obtain ⟨res, r1, r2⟩ := ih u (h + 1) n (s ||| ((1 : Int32) <<< (nI v &&& 31))) u2 (by omega) (by omega)
      refine ⟨res, r1, fun w => ?_⟩
      rw [r2 w, b_or, b_bit (by omega), Bool.or_eq_true, decide_eq_true_eq]
      constructor
      · rintro ((z | z) | z)
        · exact Or.inl z
        · exact Or.inr (Or.inl z)
        · exact Or.inr (Or.inr ⟨u, u1, z⟩)
      · rintro (z | z | ⟨u', z1, z2⟩)
        · exact Or.inl (Or.inl z)
        · exact Or.inl (Or.inr z)
        · rw [hp_un hN.2.1 z1 u1] at z2
          exact Or.inr z2
/-- posts on both ways, but the ends -/
def bo (A : Nat → Nat → Prop) (V : Nat → Prop) (r v w : Nat) : Prop := w ≠ v ∧ ∀ c, c < 2 → ∃ d, wy A V c r d v ∧ wo A V c r d v w
theorem shared_ok (hN : s_N σ np P L) {r v : Nat} (hr : r < 8) (x : mX) (ht : ct_r x.1 σ P L r) (h1 : g_C (sA σ L) (bS P) v r) : ∃ res, f_X7_shared (nI r) (nI v) x = some res ∧ ∀ w, bt res w = true ↔ bo (sA σ L) (bS P) r v w := by
  obtain ⟨d0, w0⟩ := wy_ex (c := 0) hN.2.1 h1
  obtain ⟨d1, w1⟩ := wy_ex (c := 1) hN.2.1 h1
  have l0 := wy_le hN.2.1 w0
  have l1 := wy_le hN.2.1 w1
  have hv8 := hN.2.1.2.2 v h1.1
  have hm : 8 < mF := by decide
  obtain ⟨s0, a1, a2⟩ := passed_L hN hr (c := 0) (by decide) x ht d0 v 0 mF 0 w0 (by omega) (by omega)
  obtain ⟨s1, b1, b2⟩ := passed_L hN hr (c := 1) (by decide) x ht d1 v 0 mF 0 w1 (by omega) (by omega)
  unfold f_X7_shared f_X7_passed
  rw [show f_X7_passed_L9 (nI r) (0 : Int32) mF (nI v) 0 0 x = some s0 from a1, Option.bind_some, show f_X7_passed_L9 (nI r) (1 : Int32) mF (nI v) 0 0 x = some s1 from b1, Option.bind_some]
  refine ⟨_, rfl, fun w => ?_⟩
  rw [b_wo (by omega), Bool.and_eq_true, b_and, Bool.and_eq_true, a2 w, b2 w, b_0]
  constructor
  · rintro ⟨⟨k1, k2⟩, k3⟩
    refine ⟨fun e => by simp [e] at k3, fun c hc => ?_⟩
    by_cases c0 : c = 0
    · subst c0
      exact ⟨d0, w0, k1.resolve_left (by decide)⟩
    · have : c = 1 := by omega
      subst this
      exact ⟨d1, w1, k2.resolve_left (by decide)⟩
  · rintro ⟨k1, k2⟩
    obtain ⟨e0, p1, p2⟩ := k2 0 (by decide)
    obtain ⟨e1, q1, q2⟩ := k2 1 (by decide)
    rw [wy_un hN.2.1 _ _ _ p1 w0] at p2
    rw [wy_un hN.2.1 _ _ _ q1 w1] at q2
    exact ⟨⟨Or.inr p2, Or.inr q2⟩, by simp [k1]⟩
/-- the cost of a way, added to s -/
def wc (σ : Nat → Int32) (P L : Int32) (c r : Nat) : Nat → Nat → Int32 → Int32 → Prop
  | 0, _, s, res => res = s
  | d + 1, v, s, res => ∃ u l, hp (sA σ L) (bS P) c r v u ∧ bt L l = true ∧ sE σ l v u ∧ wc σ P L c r d u (s + σ (40 + l)) res
theorem wc_un (hN : s_N σ np P L) {c r : Nat} : ∀ d v s res res', wc σ P L c r d v s res → wc σ P L c r d v s res' → res = res'
  | 0, _, _, _, _, h1, h2 => h1.trans h2.symm
  | d + 1, v, s, res, res', ⟨u, l, k1, k2, k3, k4⟩, ⟨u', l', m1, m2, m3, m4⟩ => by
    have e := hp_un hN.2.1 m1 k1
    subst e
    have a := hp_A hN.2.1 k1
    have e := s_un hN m2 k2 a.2.2.1 a.2.2.2 m3 k3
    subst e
    exact wc_un hN _ _ _ _ _ k4 m4
theorem priceAlong_L (hN : s_N σ np P L) {r c : Nat} (hr : r < 8) (hc : c < 2) (x : mX) (ht : ct_r x.1 σ P L r) (hpr : ∀ l, l < sm σ → x.1 17 l = σ (40 + l)) : ∀ d v h n s, wy (sA σ L) (bS P) c r d v → h + d ≤ 7 → d < n → ∃ res, f_X7_priceAlong_L9 (nI r) (nI c) n (nI v) s (nI h) x = some res ∧ wc σ P L c r d v s res := by
  intro d
  induction d with
  | zero =>
    intro v h n s hw hd hn
    cases n with
    | zero => omega
    | succ n =>
      rw [f_X7_priceAlong_L9, if_neg (k8f (by omega)), if_pos (by rw [hw.1])]
      exact ⟨s, rfl, rfl⟩
  | succ d ih =>
    intro v h n s hw hd hn
    obtain ⟨u, u1, u2⟩ := hw
    have a := hp_A hN.2.1 u1
    obtain ⟨e1, l, l1, l2, l3⟩ := ct_hop hN hr ht hc u1
    have hl := hN.2.2.1 l l1
    have hl16 : l < 16 := Nat.lt_of_lt_of_le hl hN.1.2.2.1
    cases n with
    | zero => omega
    | succ n =>
      rw [f_X7_priceAlong_L9, if_neg (k8f (by omega)), if_neg (fun z => a.2.1 ((nI_eq (by omega) (by omega)).mp z)), if_neg (nI_m1 (by omega)), linkAt_ok hr a.2.2.1 hc, Option.bind_some, l3, m_jn, if_neg (nI_pos (by omega)), if_neg (k16f hl16), if_pos (in_ok hl16 (by decide)), cl (by omega), next_ok hr a.2.2.1 hc, Option.bind_some, e1, hpr l hl, nI_1]
      obtain ⟨res, r1, r2⟩ := ih u (h + 1) n (s + σ (40 + l)) u2 (by omega) (by omega)
      exact ⟨res, r1, u, l, u1, l1, l2, r2⟩
end W2
