/-! ===== a net of one piece: a link between two ends ===== -/
section Q8
variable {A : Nat → Nat → Prop} {V : Nat → Prop} {a b : Nat}
/-- all posts come to each other -/
def cn (A : Nat → Nat → Prop) (V : Nat → Prop) : Prop := ∀ x y, V x → V y → g_C A V x y
theorem cn_aj (h : cn A V) : cn (aj A a b) V := fun x y hx hy => aj_in (h x y hx hy)
theorem cn_K (hN : g_N A V) (hc : cn A V) {p : Nat} (h : g_K (aj A a b) V p) : g_K A V p := by
  obtain ⟨hp, u, v, u1, v1, hu, hv, hup, hvp, hno⟩ := h
  exact Classical.byContradiction fun z => hno (aj_in (g_nk hN z (hc p u hp hu) (hc p v hp hv) hup hvp))
/-- two posts that don't come together without p: p is a cut -/
theorem cn_cut (hN : g_N A V) (hc : cn A V) {p x y : Nat} (hp : V p) (hx : V x) (hy : V y) (hxp : x ≠ p) (hyp : y ≠ p) (h : ¬ g_C A (g_D V p) x y) : g_K A V p :=
  Classical.byContradiction fun z => h (g_nk hN z (hc p x hp hx) (hc p y hp hy) hxp hyp)
theorem cn_al (hN : g_N A V) (hc : cn A V) {p : Nat} (hk : g_K A V p) : g_n (al A V) 8 = 0 := g_n_zero 8 (fun i _ h => h.2 p (hc i p h.1.1 hk.1) hk)
theorem nd_c (hN : g_N A V) (hc : cn A V) (h3 : 2 < g_n V 8) : nd A V = max (mxw A V 8 - 1) ((sme A V 8 + 1) / 2) := by
  unfold nd
  rw [if_neg (by omega)]
  by_cases hk : ∃ p, g_K A V p
  · obtain ⟨p, hp⟩ := hk
    rw [cn_al hN hc hp, if_neg (by omega)]
    rfl
  · have e1 : sme A V 8 = 0 := by
      rw [sme_eq]
      exact g_n_zero _ (fun c _ h => hk ⟨_, h.1⟩)
    have e2 : mxw A V 8 ≤ 0 := mxw_le 8 (fun p _ h => absurd ⟨p, h⟩ hk)
    obtain ⟨v, v1⟩ : ∃ v, V v := Classical.byContradiction fun z => by
      have := g_n_zero (P := V) 8 (fun c _ h => z ⟨c, h⟩)
      omega
    obtain ⟨i, i1, i2, _⟩ := g_L_ex (A := A) v1
    have e3 : g_n (al A V) 8 = 1 := g_n_one 8 i (hN.2.2 i i1.1) ⟨i1, fun w _ h => hk ⟨w, h⟩⟩ (fun c _ h => g_L_un hN.1 h.1 i1 (hc c i h.1.1 i1.1))
    rw [if_pos ⟨e3, e1⟩, e1]
    omega
/-- from a cut q in a part beside p: a neighbour away from p -/
theorem cut_away (hN : g_N A V) {q : Nat} (hq : g_K A V q) (p : Nat) : ∃ z z', A q z ∧ V z ∧ z ≠ q ∧ A q z' ∧ V z' ∧ z' ≠ q ∧ ¬ g_C A (g_D V q) z z' ∧ ¬ g_C A (g_D V q) z p := by
  have hA := hN.1
  obtain ⟨_, u, v, u1, v1, hu, hv, huq, hvq, hno⟩ := hq
  by_cases cu : g_C A (g_D V q) u p
  · exact ⟨v, u, v1, hv, hvq, u1, hu, huq, fun k => hno (g_sy hA k), fun k => hno (g_tr cu (g_sy hA k))⟩
  · exact ⟨u, v, u1, hu, huq, v1, hv, hvq, hno, cu⟩
/-- what lies behind q, away from p, is in the part of q beside p -/
theorem cut_sub {p q c z r : Nat} (hq : g_C A (g_D V p) c q) (hz : A q z) (hn : ¬ g_C A (g_D V q) z p) (hr : g_C A (g_D V q) z r) : g_C A (g_D V p) c r := by
  have hzp : z ≠ p := fun e => hn (by rw [e]; rw [e] at hr; exact g_rf hr.1)
  refine g_ind (P := fun r => g_C A (g_D V p) c r) hr (g_st hq hz ⟨hr.1.1, hzp⟩) (fun e f he ihe hef hf => ?_)
  refine g_st ihe hef ⟨hf.1, fun k => hn ?_⟩
  rw [← k]
  exact g_st he hef hf
theorem en_cj (hN : g_N A V) (hc : cn A V) (ha : V a) (hb : V b) (ka : ¬ g_K A V a) (kb : ¬ g_K A V b) {p j : Nat} (h : en (aj A a b) V p j) : (en A V p j ∧ ¬ g_C A (g_D V p) j a ∧ ¬ g_C A (g_D V p) j b) ∨ g_C (aj A a b) (g_D V p) j a := by
  have hA := hN.1
  by_cases na : g_C (aj A a b) (g_D V p) j a
  · exact Or.inr na
  left
  obtain ⟨h1, h2, h3, w, w1, w2⟩ := h
  have kp := cn_K hN hc h1
  have epa : p ≠ a := fun e => ka (by rw [← e]; exact kp)
  have epb : p ≠ b := fun e => kb (by rw [← e]; exact kp)
  have nb : ¬ g_C (aj A a b) (g_D V p) j b := fun z => na (g_st z (Or.inr (Or.inr ⟨rfl, rfl⟩)) ⟨ha, fun e => epa e.symm⟩)
  have same : ∀ z, g_C (aj A a b) (g_D V p) j z → g_C A (g_D V p) j z := fun z hz => by
    rcases aj_out hA hz with k | ⟨k1, _⟩ | ⟨k1, _⟩
    · exact k
    · exact absurd (aj_in k1) na
    · exact absurd (aj_in k1) nb
  refine ⟨⟨kp, ⟨h2.1, fun k hk hc => h2.2 k hk (aj_in hc)⟩, fun q hq kq => ?_, w, same w w1, aj_old w2 epa epb⟩, fun z => na (aj_in z), fun z => nb (aj_in z)⟩
  obtain ⟨z, z', z1, z2, z3, z4, z5, z6, z7, z8⟩ := cut_away hN kq p
  refine h3 q (aj_in hq) ⟨kq.1, z, z', Or.inl z1, Or.inl z4, z2, z5, z3, z6, fun k => ?_⟩
  rcases aj_out hA k with k | ⟨k1, _⟩ | ⟨k1, _⟩
  · exact z7 k
  · exact na (aj_in (cut_sub hq z1 z8 k1))
  · exact nb (aj_in (cut_sub hq z1 z8 k1))
/-- a in the end p1, b in the end p2 -/
def e2 (A : Nat → Nat → Prop) (V : Nat → Prop) (a b p1 j1 p2 j2 : Nat) : Prop := en A V p1 j1 ∧ en A V p2 j2 ∧ ¬ (p1 = p2 ∧ j1 = j2) ∧ g_C A (g_D V p1) j1 a ∧ g_C A (g_D V p2) j2 b
theorem e2_n (hN : g_N A V) (hc : cn A V) {p1 j1 p2 j2 : Nat} (h : e2 A V a b p1 j1 p2 j2) : sme (aj A a b) V 8 + 1 ≤ sme A V 8 ∧ ((∀ p j, en (aj A a b) V p j → ¬ g_C (aj A a b) (g_D V p) j a) → sme (aj A a b) V 8 + 2 ≤ sme A V 8) := by
  obtain ⟨h1, h2, h3, h4, h5⟩ := h
  have ka := h1.2.2.1 a h4
  have kb := h2.2.2.1 b h5
  have ha := (g_in h4).1
  have hb := (g_in h5).1
  have hab : a ≠ b := fun e => h3 (en_dj hN h1 h2 h4 (by rw [e]; exact h5))
  have hN' := aj_N hN ha hb hab
  have d1 := en_dm hN h1
  have d2 := en_dm hN h2
  have hne : p1 * 8 + j1 ≠ p2 * 8 + j2 := fun e => h3 ⟨by omega, by omega⟩
  rw [sme_eq, sme_eq]
  have s := g_n_split (P := fun k => en A V (k / 8) (k % 8)) (Q := fun t => t = p1 * 8 + j1 ∨ t = p2 * 8 + j2) (8 * 8)
  have two : 2 ≤ g_n (fun t => en A V (t / 8) (t % 8) ∧ (t = p1 * 8 + j1 ∨ t = p2 * 8 + j2)) (8 * 8) := g_n_two (8 * 8) _ _ hne d1.1 d2.1 ⟨by rw [d1.2.1, d1.2.2.1]; exact h1, Or.inl rfl⟩ ⟨by rw [d2.2.1, d2.2.2.1]; exact h2, Or.inr rfl⟩
  have s' := g_n_split (P := fun k => en (aj A a b) V (k / 8) (k % 8)) (Q := fun t => g_C (aj A a b) (g_D V (t / 8)) (t % 8) a) (8 * 8)
  have old : g_n (fun t => en (aj A a b) V (t / 8) (t % 8) ∧ ¬ g_C (aj A a b) (g_D V (t / 8)) (t % 8) a) (8 * 8) ≤ g_n (fun t => en A V (t / 8) (t % 8) ∧ ¬ (t = p1 * 8 + j1 ∨ t = p2 * 8 + j2)) (8 * 8) := by
    refine g_n_le _ (fun c hcc hcn => ?_)
    rcases en_cj hN hc ha hb ka kb hcn.1 with ⟨k1, k2, k3⟩ | k
    · refine ⟨k1, fun z => ?_⟩
      rcases z with z | z
      · subst z
        rw [d1.2.1, d1.2.2.1] at k2
        exact k2 h4
      · subst z
        rw [d2.2.1, d2.2.2.1] at k3
        exact k3 h5
    · exact absurd k hcn.2
  have one : g_n (fun t => en (aj A a b) V (t / 8) (t % 8) ∧ g_C (aj A a b) (g_D V (t / 8)) (t % 8) a) (8 * 8) ≤ 1 := by
    refine g_n_atmost _ (fun c d _ _ h k => ?_)
    have := en_dj hN' h.1 k.1 h.2 k.2
    omega
  refine ⟨by omega, fun hno => ?_⟩
  have z : g_n (fun t => en (aj A a b) V (t / 8) (t % 8) ∧ g_C (aj A a b) (g_D V (t / 8)) (t % 8) a) (8 * 8) = 0 := g_n_zero _ (fun c _ h => hno _ _ h.1 h.2)
  omega
/-- the need falls if the ends do and the widest is no wider than the need -/
theorem nd_fall (hN : g_N A V) (hc : cn A V) (h3 : 2 < g_n V 8) (hab : a ≠ b) (ha : V a) (hb : V b) {k : Nat} (hk : nd A V = k) (k1 : 1 ≤ k) (hW : ∀ p, g_K (aj A a b) V p → dw (aj A a b) V p ≤ k) (hl : sme (aj A a b) V 8 + 2 ≤ 2 * k) : nd (aj A a b) V < nd A V := by
  rw [hk, nd_c (aj_N hN ha hb hab) (cn_aj hc) h3]
  have := mxw_le (A := aj A a b) (V := V) 8 (fun p _ h => hW p h)
  omega
theorem dw_le {p : Nat} : dw (aj A a b) V p ≤ dw A V p := g_n_le 8 (fun c _ h => ⟨h.1, fun k hk hc => h.2 k hk (aj_in hc)⟩)
theorem dw_lt (hN : g_N A V) {p : Nat} (ha : V a) (hb : V b) (hpa : a ≠ p) (hpb : b ≠ p) (h : ¬ g_C A (g_D V p) a b) : dw (aj A a b) V p < dw A V p := aj_lt hN.1 (fun c hc => hN.2.2 c hc.1) ⟨ha, hpa⟩ ⟨hb, hpb⟩ h
/-- two cuts of the new net, mates of a: no new end -/
theorem no_new {u1 u2 : Nat} (hne : u1 ≠ u2) (ka : ¬ g_K (aj A a b) V a) (k1 : g_K (aj A a b) V u1) (k2 : g_K (aj A a b) V u2) (m1 : g_M (aj A a b) V a u1) (m2 : g_M (aj A a b) V a u2) {p j : Nat} (h : en (aj A a b) V p j) : ¬ g_C (aj A a b) (g_D V p) j a := by
  intro z
  obtain ⟨h1, h2, h3, _⟩ := h
  have hpa : p ≠ a := fun e => ka (by rw [e] at h1; exact h1)
  by_cases e : p = u1
  · have : p ≠ u2 := fun e' => hne (e.symm.trans e')
    exact h3 u2 (g_tr z (m2.2 p hpa this)) k2
  · exact h3 u1 (g_tr z (m1.2 p hpa e)) k1
end Q8
