/-! ===== two pieces joined: two demands less ===== -/
section Q6
variable {A : Nat → Nat → Prop} {V : Nat → Prop} {a b : Nat}
theorem aj_cm : aj A a b = aj A b a := funext fun p => funext fun q => propext ⟨fun h => by
    rcases h with h | h | h
    · exact Or.inl h
    · exact Or.inr (Or.inr h)
    · exact Or.inr (Or.inl h), fun h => by
    rcases h with h | h | h
    · exact Or.inl h
    · exact Or.inr (Or.inr h)
    · exact Or.inr (Or.inl h)⟩
theorem aj_N (hN : g_N A V) (ha : V a) (hb : V b) (hne : a ≠ b) : g_N (aj A a b) V := by
  refine ⟨aj_sy hN.1, fun p q h => ?_, hN.2.2⟩
  rcases h with h | ⟨rfl, rfl⟩ | ⟨rfl, rfl⟩
  · exact hN.2.1 p q h
  · exact ⟨ha, hb, hne⟩
  · exact ⟨hb, ha, Ne.symm hne⟩
theorem aj_old {p w : Nat} (h : aj A a b p w) (hpa : p ≠ a) (hpb : p ≠ b) : A p w := by
  rcases h with h | h | h
  · exact h
  · exact absurd h.1 hpa
  · exact absurd h.1 hpb
/-- without a post that is no cut its piece keeps whole -/
theorem g_nk {p j k : Nat} (hN : g_N A V) (hp : ¬ g_K A V p) (hj : g_C A V p j) (hk : g_C A V p k) (hjp : j ≠ p) (hkp : k ≠ p) : g_C A (g_D V p) j k := by
  obtain ⟨u, u1, u2⟩ := g_first hj hjp
  obtain ⟨v, v1, v2⟩ := g_first hk hkp
  have huv : g_C A (g_D V p) u v := Classical.byContradiction fun z => hp ⟨hj.1, u, v, u1, v1, u2.1.1, v2.1.1, u2.1.2, v2.1.2, z⟩
  exact g_tr (g_sy hN.1 u2) (g_tr huv v2)
/-- alone in its piece -/
def sg (A : Nat → Nat → Prop) (V : Nat → Prop) (a : Nat) : Prop := ∀ w, g_C A V a w → w = a
theorem sg_of (h : ¬ ∃ w, A a w ∧ V w ∧ w ≠ a) : sg A V a := fun w hw => g_ind (P := fun w => w = a) hw rfl (fun c d _ ih e hd => by
  refine Classical.byContradiction fun z => h ⟨d, ih ▸ e, hd, z⟩)
/-- cuts of the net with the link more -/
theorem ajK (hN : g_N A V) (hab : ¬ g_C A V a b) {p : Nat} (hpa : p ≠ a) (hpb : p ≠ b) : g_K (aj A a b) V p ↔ g_K A V p := by
  have hA := hN.1
  constructor
  · rintro ⟨hp, u, v, u1, v1, hu, hv, hup, hvp, hno⟩
    exact ⟨hp, u, v, aj_old u1 hpa hpb, aj_old v1 hpa hpb, hu, hv, hup, hvp, fun k => hno (aj_in k)⟩
  · rintro ⟨hp, u, v, u1, v1, hu, hv, hup, hvp, hno⟩
    refine ⟨hp, u, v, Or.inl u1, Or.inl v1, hu, hv, hup, hvp, fun k => ?_⟩
    have huv : g_C A V u v := g_st (g_st (g_rf hu) (hA _ _ u1) hp) v1 hv
    rcases aj_out hA k with k | ⟨k1, k2⟩ | ⟨k1, k2⟩
    · exact hno k
    · exact hab (g_tr (g_sy hA (g_out k1)) (g_tr huv (g_sy hA (g_out k2))))
    · exact hab (g_tr (g_out k2) (g_tr (g_sy hA huv) (g_out k1)))
theorem ajKa (hN : g_N A V) (ha : V a) (hb : V b) (hab : ¬ g_C A V a b) (h : ∃ w, A a w ∧ V w ∧ w ≠ a) : g_K (aj A a b) V a := by
  obtain ⟨w, w1, w2, w3⟩ := h
  have hne : b ≠ a := fun e => hab (by rw [e]; exact g_rf ha)
  refine ⟨ha, w, b, Or.inl w1, Or.inr (Or.inl ⟨rfl, rfl⟩), w2, hb, w3, hne, fun k => ?_⟩
  have k' := aj_none (S := g_D V a) (Or.inl (fun z => z.2 rfl)) k
  exact hab (g_fr w1 ha (g_out k'))
theorem ajKb (hN : g_N A V) (ha : V a) (hb : V b) (hab : ¬ g_C A V a b) (h : ∃ w, A b w ∧ V w ∧ w ≠ b) : g_K (aj A a b) V b := by
  rw [aj_cm]
  exact ajKa hN hb ha (fun k => hab (g_sy hN.1 k)) h
theorem ajK_nb (hN : g_N A V) (hb : V b) (h : g_K (aj A a b) V a) : ∃ w, A a w ∧ V w ∧ w ≠ a := by
  obtain ⟨hp, u, v, u1, v1, hu, hv, hup, hvp, hno⟩ := h
  refine Classical.byContradiction fun hc => ?_
  have nb : ∀ u, aj A a b a u → u ≠ a → V u → u = b := fun u h hua hu => by
    rcases h with h | h | h
    · exact absurd ⟨u, h, hu, hua⟩ hc
    · exact h.2
    · exact absurd h.2 hua
  have e1 := nb u u1 hup hu
  have e2 := nb v v1 hvp hv
  exact hno (e1.trans e2.symm ▸ g_rf ⟨hu, hup⟩)
/-- the new ends -/
def nw (A : Nat → Nat → Prop) (V : Nat → Prop) (a b p j : Nat) : Prop := p = a ∧ (∃ w, A a w ∧ V w ∧ w ≠ a) ∧ g_L A (g_D V a) j ∧ ((j = b ∧ sg A V b) ∨ (g_C A V a j ∧ ∀ w, g_C A V a w → ¬ g_K A V w))
theorem en_at (hN : g_N A V) (ha : V a) (hb : V b) (hab : ¬ g_C A V a b) (ka : ¬ g_K A V a) {j : Nat} (h : en (aj A a b) V a j) : nw A V a b a j := by
  have hA := hN.1
  obtain ⟨h1, h2, h3, w, w1, w2⟩ := h
  have hno : ¬ g_D V a a ∨ ¬ g_D V a b := Or.inl (fun z => z.2 rfl)
  have hL : g_L A (g_D V a) j := ⟨h2.1, fun k hk hc => h2.2 k hk (aj_in hc)⟩
  have w1' := aj_none hno w1
  refine ⟨rfl, ajK_nb hN hb h1, hL, ?_⟩
  rcases w2 with w2 | ⟨_, w2⟩ | ⟨w2, w3⟩
  · right
    have haj : g_C A V a j := g_fr w2 ha (g_out (g_sy hA w1'))
    refine ⟨haj, fun z hz kz => ?_⟩
    by_cases e : z = a
    · exact ka (e ▸ kz)
    · have hzb : z ≠ b := fun e => hab (e ▸ hz)
      exact h3 z (aj_in (g_nk hN ka haj hz h2.1.2 e)) ((ajK hN hab e hzb).mpr kz)
  · left
    subst w2
    have sb : sg A V w := sg_of (fun z => h3 w w1 (ajKb hN ha hb hab z))
    exact ⟨sb j (g_out (g_sy hA w1')), sb⟩
  · exact absurd w2.symm (fun e => (g_in w1).2 w3)
theorem en_aj (hN : g_N A V) (ha : V a) (hb : V b) (hab : ¬ g_C A V a b) (ka : ¬ g_K A V a) (kb : ¬ g_K A V b) {p j : Nat} (h : en (aj A a b) V p j) : (en A V p j ∧ ¬ g_C A (g_D V p) j a ∧ ¬ g_C A (g_D V p) j b) ∨ nw A V a b p j ∨ nw A V b a p j := by
  have hA := hN.1
  have hA' := aj_sy (a := a) (b := b) hA
  by_cases epa : p = a
  · subst epa
    exact Or.inr (Or.inl (en_at hN ha hb hab ka h))
  by_cases epb : p = b
  · subst epb
    rw [aj_cm] at h
    exact Or.inr (Or.inr (en_at hN hb ha (fun k => hab (g_sy hA k)) kb h))
  left
  obtain ⟨h1, h2, h3, w, w1, w2⟩ := h
  have w2' := aj_old w2 epa epb
  have hp := h1.1
  have na : ¬ g_C (aj A a b) (g_D V p) j a := fun z => by
    have zb : g_C (aj A a b) (g_D V p) j b := g_st z (Or.inr (Or.inl ⟨rfl, rfl⟩)) ⟨hb, fun e => epb e.symm⟩
    have sa : sg A V a := sg_of (fun k => h3 a z (ajKa hN ha hb hab k))
    have sb : sg A V b := sg_of (fun k => h3 b zb (ajKb hN ha hb hab k))
    rcases aj_out hA (g_tr (g_sy hA' z) w1) with k | ⟨k1, k2⟩ | ⟨k1, k2⟩
    · have e := sa w (g_out k)
      subst e
      exact epa (sa p (g_st (g_rf ha) (hA _ _ w2') hp))
    · have e := sb w (g_out k2)
      subst e
      exact epb (sb p (g_st (g_rf hb) (hA _ _ w2') hp))
    · exact hab (g_out k1)
  have nb : ¬ g_C (aj A a b) (g_D V p) j b := fun z => na (g_st z (Or.inr (Or.inr ⟨rfl, rfl⟩)) ⟨ha, fun e => epa e.symm⟩)
  have same : ∀ z, g_C (aj A a b) (g_D V p) j z → g_C A (g_D V p) j z := fun z hz => by
    rcases aj_out hA hz with k | ⟨k1, _⟩ | ⟨k1, _⟩
    · exact k
    · exact absurd (aj_in k1) na
    · exact absurd (aj_in k1) nb
  refine ⟨⟨(ajK hN hab epa epb).mp h1, ⟨h2.1, fun k hk hc => h2.2 k hk (aj_in hc)⟩, fun z hz kz => ?_, w, same w w1, w2'⟩, fun z => na (aj_in z), fun z => nb (aj_in z)⟩
  have hz' := aj_in (a := a) (b := b) hz
  exact h3 z hz' ((ajK hN hab (fun e => na (by rw [e] at hz'; exact hz')) (fun e => nb (by rw [e] at hz'; exact hz'))).mpr kz)
theorem al_aj (hN : g_N A V) (ha : V a) (hb : V b) (hab : ¬ g_C A V a b) {i : Nat} (h : al (aj A a b) V i) : (al A V i ∧ ¬ g_C A V i a ∧ ¬ g_C A V i b) ∨ (sg A V a ∧ sg A V b ∧ g_L (aj A a b) V i ∧ g_C (aj A a b) V a i) := by
  have hA := hN.1
  have hA' := aj_sy (a := a) (b := b) hA
  obtain ⟨h1, h2⟩ := h
  by_cases z : g_C (aj A a b) V i a
  · right
    have zb : g_C (aj A a b) V i b := g_st z (Or.inr (Or.inl ⟨rfl, rfl⟩)) hb
    exact ⟨sg_of (fun k => h2 a z (ajKa hN ha hb hab k)), sg_of (fun k => h2 b zb (ajKb hN ha hb hab k)), h1, g_sy hA' z⟩
  · left
    have nb : ¬ g_C (aj A a b) V i b := fun k => z (g_st k (Or.inr (Or.inr ⟨rfl, rfl⟩)) ha)
    refine ⟨⟨⟨h1.1, fun k hk hc => h1.2 k hk (aj_in hc)⟩, fun w hw kw => ?_⟩, fun k => z (aj_in k), fun k => nb (aj_in k)⟩
    have hw' := aj_in (a := a) (b := b) hw
    exact h2 w hw' ((ajK hN hab (fun e => z (by rw [e] at hw'; exact hw')) (fun e => nb (by rw [e] at hw'; exact hw'))).mpr kw)
/-- the new demands at a -/
def yt (A : Nat → Nat → Prop) (V : Nat → Prop) (a b B c : Nat) : Prop := (c < 64 ∧ c / 8 = a ∧ g_L A (g_D V a) (c % 8) ∧ g_C A V a (c % 8)) ∨ (c < 64 ∧ c / 8 = b ∧ (∃ w, A b w ∧ V w ∧ w ≠ b) ∧ c % 8 = a ∧ sg A V a) ∨ (B ≤ c ∧ c < B + 8 ∧ sg A V a ∧ sg A V b ∧ g_L (aj A a b) V (c - B) ∧ g_C (aj A a b) V a (c - B))
theorem yt_un (hN : g_N A V) (ka : ¬ g_K A V a) {B c d : Nat} (h : yt A V a b B c) (k : yt A V a b B d) : c = d := by
  have hA := hN.1
  have hA' := aj_sy (a := a) (b := b) hA
  have no1 : ∀ c, g_L A (g_D V a) (c % 8) → g_C A V a (c % 8) → sg A V a → False := fun c h1 h2 h3 => h1.1.2 (h3 _ h2)
  have no2 : (∃ w, A b w ∧ V w ∧ w ≠ b) → sg A V b → False := fun ⟨w, w1, w2, w3⟩ h => w3 (h w (g_st (g_rf (hN.2.1 _ _ w1).1) w1 w2))
  rcases h with ⟨h1, h2, h3, h4⟩ | ⟨h1, h2, h3, h4, h5⟩ | ⟨h1, h2, h3, h4, h5, h6⟩
  · rcases k with ⟨k1, k2, k3, k4⟩ | ⟨k1, k2, k3, k4, k5⟩ | ⟨k1, k2, k3, k4, k5, k6⟩
    · have := g_L_un hA h3 k3 (g_nk hN ka h4 k4 h3.1.2 k3.1.2)
      omega
    · exact (no1 c h3 h4 k5).elim
    · exact (no1 c h3 h4 k3).elim
  · rcases k with ⟨k1, k2, k3, k4⟩ | ⟨k1, k2, k3, k4, k5⟩ | ⟨k1, k2, k3, k4, k5, k6⟩
    · exact (no1 d k3 k4 h5).elim
    · omega
    · exact (no2 h3 k4).elim
  · rcases k with ⟨k1, k2, k3, k4⟩ | ⟨k1, k2, k3, k4, k5⟩ | ⟨k1, k2, k3, k4, k5, k6⟩
    · exact (no1 d k3 k4 h3).elim
    · exact (no2 k3 h4).elim
    · have := g_L_un hA' h5 k5 (g_tr (g_sy hA' h6) k6)
      omega
end Q6
