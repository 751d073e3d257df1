/-! ===== nets: who comes to whom within a set; pieces, mates, blocks ===== -/
/-- a comes to b by A within S -/
def g_C (A : Nat → Nat → Prop) (S : Nat → Prop) (a b : Nat) : Prop := S a ∧ ∀ P : Nat → Prop, P a → (∀ c d, P c → S c → A c d → S d → P d) → P b
/-- S without x -/
def g_D (S : Nat → Prop) (x : Nat) : Nat → Prop := fun c => S c ∧ c ≠ x
section G1
variable {A : Nat → Nat → Prop} {S T V : Nat → Prop} {a b c d x y r s t u v w p q : Nat}
theorem g_in (h : g_C A S a b) : S b := h.2 S h.1 (fun _ _ _ _ _ hd => hd)
theorem g_rf (h : S a) : g_C A S a a := ⟨h, fun _ h0 _ => h0⟩
theorem g_st (h : g_C A S a c) (e : A c d) (hd : S d) : g_C A S a d := ⟨h.1, fun P h0 hs => hs c d (h.2 P h0 hs) (g_in h) e hd⟩
theorem g_ind {P : Nat → Prop} (h : g_C A S a b) (h0 : P a) (hs : ∀ c d, g_C A S a c → P c → A c d → S d → P d) : P b :=
  (h.2 (fun c => g_C A S a c ∧ P c) ⟨g_rf h.1, h0⟩ (fun c d hc _ e hd => ⟨g_st hc.1 e hd, hs c d hc.1 hc.2 e hd⟩)).2
theorem g_tr (h1 : g_C A S a b) (h2 : g_C A S b c) : g_C A S a c := g_ind h2 h1 (fun _ _ _ hc e hd => g_st hc e hd)
theorem g_sy (hA : ∀ a b, A a b → A b a) (h : g_C A S a b) : g_C A S b a :=
  g_ind (P := fun z => g_C A S z a) h (g_rf h.1) (fun _ _ hac hc e hd => g_tr (g_st (g_rf hd) (hA _ _ e) (g_in hac)) hc)
theorem g_mo (h : g_C A S a b) (hm : ∀ c, S c → T c) : g_C A T a b := g_ind h (g_rf (hm _ h.1)) (fun _ _ _ hc e hd => g_st hc e (hm _ hd))
theorem g_D_sub (h : g_D S x c) : S c := h.1
theorem g_out (h : g_C A (g_D S x) a b) : g_C A S a b := g_mo h (fun _ hc => hc.1)
/-- a step in front -/
theorem g_fr (e : A a b) (ha : S a) (h : g_C A S b c) : g_C A S a c := g_tr (g_st (g_rf ha) e h.1) h
/-- coming on the way to t either avoids y, or y itself is come to -/
theorem g_one (h : g_C A V s t) (hs : s ≠ y) : g_C A (g_D V y) s t ∨ g_C A V s y := by
  refine g_ind (P := fun t => g_C A (g_D V y) s t ∨ g_C A V s y) h (Or.inl (g_rf ⟨h.1, hs⟩)) ?_
  intro c d hsc hc e hd
  rcases hc with hc | hc
  · by_cases hdy : d = y
    · subst hdy; exact Or.inr (g_st hsc e hd)
    · exact Or.inl (g_st hc e ⟨hd, hdy⟩)
  · exact Or.inr hc
/-- of two that may stand in the way one is come to first -/
theorem g_two (hp : s ≠ p) (hq : s ≠ q) (hpq : p ≠ q) (h : g_C A V s t) : g_C A (g_D V p) s q ∨ g_C A (g_D V q) s p ∨ g_C A (g_D (g_D V p) q) s t := by
  refine g_ind (P := fun t => g_C A (g_D V p) s q ∨ g_C A (g_D V q) s p ∨ g_C A (g_D (g_D V p) q) s t) h (Or.inr (Or.inr (g_rf ⟨⟨h.1, hp⟩, hq⟩))) ?_
  intro c d _ hc e hd
  rcases hc with hc | hc | hc
  · exact Or.inl hc
  · exact Or.inr (Or.inl hc)
  · by_cases hdp : d = p
    · subst hdp
      exact Or.inr (Or.inl (g_st (g_mo hc (fun _ hz => ⟨hz.1.1, hz.2⟩)) e ⟨hd, hpq⟩))
    · by_cases hdq : d = q
      · subst hdq
        exact Or.inl (g_st (g_mo hc (fun _ hz => hz.1)) e ⟨hd, hdp⟩)
      · exact Or.inr (Or.inr (g_st hc e ⟨⟨hd, hdp⟩, hdq⟩))
/-- mates: of one piece, and no third one parts them -/
def g_M (A : Nat → Nat → Prop) (V : Nat → Prop) (p q : Nat) : Prop := g_C A V p q ∧ ∀ y, y ≠ p → y ≠ q → g_C A (g_D V y) p q
def g_B (A : Nat → Nat → Prop) (V : Nat → Prop) (a b : Nat) : Nat → Prop := fun w => g_M A V a w ∧ g_M A V b w
/-- tight: two at least, and hangs together without any one -/
def g_T (A : Nat → Nat → Prop) (S : Nat → Prop) : Prop := (∃ a b, S a ∧ S b ∧ a ≠ b) ∧ ∀ x a b, S a → S b → a ≠ x → b ≠ x → g_C A (g_D S x) a b
theorem g_M_rf (h : V p) : g_M A V p p := ⟨g_rf h, fun _ h1 _ => g_rf ⟨h, Ne.symm h1⟩⟩
theorem g_M_sy (hA : ∀ a b, A a b → A b a) (h : g_M A V p q) : g_M A V q p := ⟨g_sy hA h.1, fun y h1 h2 => g_sy hA (h.2 y h2 h1)⟩
/-- a mate is come to without any other one -/
theorem g_M_c (h : g_M A V p q) (h1 : p ≠ y) (h2 : q ≠ y) : g_C A (g_D V y) p q := h.2 y (Ne.symm h1) (Ne.symm h2)
theorem g_M_of (h : g_C A V p q) (hy : ∀ y, V y → y ≠ p → y ≠ q → g_C A (g_D V y) p q) : g_M A V p q := by
  refine ⟨h, fun y h1 h2 => ?_⟩
  by_cases hv : V y
  · exact hy y hv h1 h2
  · exact g_mo h (fun c hc => ⟨hc, fun e => hv (e ▸ hc)⟩)
theorem g_T_conn (h : g_T A S) (ha : S a) (hb : S b) : g_C A S a b := g_out (h.2 (a + b + 1) a b ha hb (by omega) (by omega))
theorem g_T_M (h : g_T A S) (hs : ∀ c, S c → V c) (ha : S a) (hb : S b) : g_M A V a b :=
  ⟨g_mo (g_T_conn h ha hb) hs, fun y h1 h2 => g_mo (h.2 y a b ha hb (Ne.symm h1) (Ne.symm h2)) (fun c hc => ⟨hs c hc.1, hc.2⟩)⟩
theorem g_B_V (h : g_B A V a b w) : V w := g_in h.1.1
/-- what lies outside of a block hangs on one of its posts at most -/
theorem g_att (hA : ∀ a b, A a b → A b a) (hw : g_C A (fun c => V c ∧ ¬ g_B A V a b c) x w) (h1 : A u x) (h2 : A w d) (hu : g_B A V a b u) (hd : g_B A V a b d) : u = d := by
  refine Classical.byContradiction fun hne => hw.1.2 ?_
  have key : ∀ e, g_M A V e u → g_M A V e d → g_M A V e x := by
    intro e heu hed
    refine ⟨g_st heu.1 h1 hw.1.1, fun y hy1 hy2 => ?_⟩
    by_cases hyu : y = u
    · subst hyu
      have k1 : g_C A (g_D V y) e d := g_M_c hed (Ne.symm hy1) (Ne.symm hne)
      have k2 : g_C A (g_D V y) x w := g_mo hw (fun c hc => ⟨hc.1, fun ec => hc.2 (ec ▸ hu)⟩)
      exact g_tr (g_st k1 (hA _ _ h2) (g_in k2)) (g_sy hA k2)
    · exact g_st (g_M_c heu (Ne.symm hy1) (Ne.symm hyu)) h1 ⟨hw.1.1, Ne.symm hy2⟩
  exact ⟨key a hu.1 hd.1, key b hu.2 hd.2⟩
theorem g_B_tight (hA : ∀ a b, A a b → A b a) (hab : a ≠ b) (hM : g_M A V a b) : g_T A (g_B A V a b) := by
  have hVa : V a := hM.1.1
  have hVb : V b := g_in hM.1
  refine ⟨⟨a, b, ⟨g_M_rf hVa, g_M_sy hA hM⟩, ⟨hM, g_M_rf hVb⟩, hab⟩, fun x u v hu hv hux hvx => ?_⟩
  have k : g_C A (g_D V x) u v := by
    by_cases hax : a = x
    · have hbx : b ≠ x := fun e => hab (hax.trans e.symm)
      exact g_tr (g_sy hA (g_M_c hu.2 hbx hux)) (g_M_c hv.2 hbx hvx)
    · exact g_tr (g_sy hA (g_M_c hu.1 hax hux)) (g_M_c hv.1 hax hvx)
  have pr := g_ind (P := fun w => (g_B A V a b w → g_C A (g_D (g_B A V a b) x) u w) ∧ (¬ g_B A V a b w → ∃ u' w', g_C A (g_D (g_B A V a b) x) u u' ∧ A u' w' ∧ g_C A (fun c => V c ∧ ¬ g_B A V a b c) w' w)) k
    ⟨fun _ => g_rf ⟨hu, hux⟩, fun h => absurd hu h⟩ (by
      intro c d hc ih e hd
      by_cases hcB : g_B A V a b c
      · have ic := ih.1 hcB
        refine ⟨fun hdB => g_st ic e ⟨hdB, hd.2⟩, fun hdB => ⟨c, d, ic, e, g_rf ⟨hd.1, hdB⟩⟩⟩
      · obtain ⟨u', w', k1, k2, k3⟩ := ih.2 hcB
        refine ⟨fun hdB => ?_, fun hdB => ⟨u', w', k1, k2, g_st k3 e ⟨hd.1, hdB⟩⟩⟩
        have := g_att hA k3 k2 e (g_in k1).1 hdB
        subst this
        exact k1)
  exact pr.1 hv
theorem g_B_max (hA : ∀ a b, A a b → A b a) (hT : g_T A S) (hs : ∀ c, S c → V c) (ha : S a) (hb : S b) (hw : S w) : g_B A V a b w :=
  ⟨g_T_M hT hs ha hw, g_T_M hT hs hb hw⟩
/-- two posts of a block tell it -/
theorem g_B_eq (hA : ∀ a b, A a b → A b a) (hab : a ≠ b) (hM : g_M A V a b) (huv : u ≠ v) (hu : g_B A V a b u) (hv : g_B A V a b v) : g_B A V a b w ↔ g_B A V u v w := by
  have hT := g_B_tight hA hab hM
  have hs : ∀ c, g_B A V a b c → V c := fun c hc => g_B_V hc
  have hMuv : g_M A V u v := g_T_M hT hs hu hv
  refine ⟨fun h => g_B_max hA hT hs hu hv h, fun h => ?_⟩
  have hVa : V a := hM.1.1
  have hVb : V b := g_in hM.1
  have haB : g_B A V a b a := ⟨g_M_rf hVa, g_M_sy hA hM⟩
  have hbB : g_B A V a b b := ⟨hM, g_M_rf hVb⟩
  have hT2 := g_B_tight hA huv hMuv
  have hs2 : ∀ c, g_B A V u v c → V c := fun c hc => g_B_V hc
  exact g_B_max hA hT2 hs2 (g_B_max hA hT hs hu hv haB) (g_B_max hA hT hs hu hv hbB) h
/-- counting below a bound -/
noncomputable def g_n (P : Nat → Prop) : Nat → Nat
  | 0 => 0
  | n + 1 => g_n P n + @ite Nat (P n) (Classical.propDecidable _) 1 0
theorem g_n_le {P Q : Nat → Prop} : ∀ n, (∀ c, c < n → P c → Q c) → g_n P n ≤ g_n Q n
  | 0, _ => Nat.le_refl _
  | n + 1, h => by
    have ih := g_n_le n (fun c hc => h c (by omega))
    have hn := h n (by omega)
    unfold g_n
    by_cases hp : P n
    · rw [if_pos hp, if_pos (hn hp)]; omega
    · rw [if_neg hp]; omega
theorem g_n_lt {P Q : Nat → Prop} : ∀ n k, k < n → (∀ c, c < n → P c → Q c) → Q k → ¬ P k → g_n P n < g_n Q n
  | 0, _, hk, _, _, _ => absurd hk (by omega)
  | n + 1, k, hk, h, hq, hp => by
    unfold g_n
    by_cases e : k = n
    · subst e
      rw [if_neg hp, if_pos hq]
      have := g_n_le k (fun c hc => h c (by omega))
      omega
    · have ih := g_n_lt n k (by omega) (fun c hc => h c (by omega)) hq hp
      have hn := h n (by omega)
      by_cases hpn : P n
      · rw [if_pos hpn, if_pos (hn hpn)]; omega
      · rw [if_neg hpn]; omega
theorem g_n_cong {P Q : Nat → Prop} (n : Nat) (h : ∀ c, c < n → (P c ↔ Q c)) : g_n P n = g_n Q n :=
  Nat.le_antisymm (g_n_le n (fun c hc => (h c hc).mp)) (g_n_le n (fun c hc => (h c hc).mpr))
theorem g_n_split {P Q : Nat → Prop} : ∀ n, g_n P n = g_n (fun c => P c ∧ Q c) n + g_n (fun c => P c ∧ ¬ Q c) n
  | 0 => rfl
  | n + 1 => by
    have ih := g_n_split (P := P) (Q := Q) n
    unfold g_n
    by_cases hp : P n
    · by_cases hq : Q n
      · rw [if_pos hp, if_pos ⟨hp, hq⟩, if_neg (fun z => z.2 hq)]; omega
      · rw [if_pos hp, if_neg (fun z => hq z.2), if_pos ⟨hp, hq⟩]; omega
    · rw [if_neg hp, if_neg (fun z => hp z.1), if_neg (fun z => hp z.1)]; omega
theorem g_n_zero {P : Nat → Prop} : ∀ n, (∀ c, c < n → ¬ P c) → g_n P n = 0
  | 0, _ => rfl
  | n + 1, h => by
    unfold g_n
    rw [if_neg (h n (by omega)), g_n_zero n (fun c hc => h c (by omega))]
theorem g_n_one {P : Nat → Prop} (n k : Nat) (hk : k < n) (hp : P k) (h : ∀ c, c < n → P c → c = k) : g_n P n = 1 := by
  have e : g_n P n = g_n (fun c => P c ∧ c = k) n + g_n (fun c => P c ∧ ¬ c = k) n := g_n_split n
  rw [g_n_zero (P := fun c => P c ∧ ¬ c = k) n (fun c hc z => z.2 (h c hc z.1))] at e
  have e2 : ∀ m, g_n (fun c => P c ∧ c = k) m = if k < m then 1 else 0 := by
    intro m
    induction m with
    | zero => rfl
    | succ m ih =>
      unfold g_n
      rw [ih]
      by_cases hm : m = k
      · subst hm; rw [if_neg (by omega), if_pos ⟨hp, rfl⟩, if_pos (by omega)]
      · rw [if_neg (fun z : P m ∧ m = k => hm z.2)]
        by_cases hkm : k < m
        · rw [if_pos hkm, if_pos (by omega)]
        · rw [if_neg hkm, if_neg (by omega)]
  rw [e, e2, if_pos hk]
theorem g_n_two {P : Nat → Prop} (n j k : Nat) (hjk : j ≠ k) (hj : j < n) (hk : k < n) (hpj : P j) (hpk : P k) : 2 ≤ g_n P n := by
  have h1 : g_n (fun c => c = j) n = 1 := g_n_one n j hj rfl (fun c _ h => h)
  have h2 : g_n (fun c => c = j) n < g_n P n := g_n_lt n k hk (fun c _ hc => hc ▸ hpj) hpk (fun e => hjk e.symm)
  omega
theorem g_n_atmost {P : Nat → Prop} (n : Nat) (h : ∀ j k, j < n → k < n → P j → P k → j = k) : g_n P n ≤ 1 := by
  by_cases hex : ∃ k, k < n ∧ P k
  · obtain ⟨k, hk, hp⟩ := hex
    rw [g_n_one n k hk hp (fun c hc hpc => h c k hc hk hpc hp)]
    exact Nat.le_refl _
  · rw [g_n_zero n (fun c hc hp => hex ⟨c, hc, hp⟩)]
    omega
theorem g_n_bound {P : Nat → Prop} : ∀ n, g_n P n ≤ n
  | 0 => Nat.le_refl _
  | n + 1 => by
    have ih := g_n_bound (P := P) n
    unfold g_n
    by_cases hp : P n
    · rw [if_pos hp]; omega
    · rw [if_neg hp]; omega
theorem g_n_pos {P : Nat → Prop} (n k : Nat) (hk : k < n) (hp : P k) : 0 < g_n P n := by
  have := g_n_lt (P := fun _ => False) n k hk (fun _ _ z => z.elim) hp id
  omega
/-! own blocks and heads -/
/-- p is the head of v's own block by the root r -/
def g_H (A : Nat → Nat → Prop) (V : Nat → Prop) (r v p : Nat) : Prop := (g_M A V v r ∧ p = r) ∨ (¬ g_M A V v r ∧ p ≠ v ∧ g_M A V v p ∧ ¬ g_C A (g_D V p) v r)
theorem g_H_M (hv : v ≠ r) (h : g_H A V r v p) : g_M A V v p ∧ p ≠ v := by
  rcases h with ⟨h, rfl⟩ | ⟨_, h1, h2, _⟩
  · exact ⟨h, Ne.symm hv⟩
  · exact ⟨h2, h1⟩
/-- one that parts v from r, but is no mate of v, isn't the nearest such one -/
theorem g_sep (hA : ∀ a b, A a b → A b a) (h : g_C A V v r) (hvy : v ≠ y) (hy : ¬ g_C A (g_D V y) v r) (hM : ¬ g_M A V v y) : ∃ z, z ≠ v ∧ ¬ g_C A (g_D V z) v r ∧ (∀ c, g_C A (g_D V z) v c → g_C A (g_D V y) v c) ∧ g_C A (g_D V y) v z := by
  have hvyV : g_C A V v y := (g_one h hvy).resolve_left hy
  obtain ⟨z, hz1, hz2, hz⟩ : ∃ z, z ≠ v ∧ z ≠ y ∧ ¬ g_C A (g_D V z) v y := by
    refine Classical.byContradiction fun hc => hM ⟨hvyV, fun z h1 h2 => ?_⟩
    exact Classical.byContradiction fun hcc => hc ⟨z, h1, h2, hcc⟩
  have hyz : g_C A (g_D V y) v z := by
    rcases g_two (p := y) (q := z) hvy (Ne.symm hz1) (Ne.symm hz2) hvyV with k | k | k
    · exact k
    · exact absurd k hz
    · exact absurd rfl (g_in k).1.2
  have sub : ∀ c, g_C A (g_D V z) v c → g_C A (g_D V y) v c := by
    intro c hc
    rcases g_one (y := y) hc hvy with k | k
    · exact g_mo k (fun _ hz => ⟨hz.1.1, hz.2⟩)
    · exact absurd k hz
  exact ⟨z, hz1, fun k => hy (sub _ k), sub, hyz⟩
theorem g_H_ex (hA : ∀ a b, A a b → A b a) (hV : ∀ c, V c → c < 8) (h : g_C A V v r) (hvr : v ≠ r) : ∃ p, g_H A V r v p := by
  by_cases hM : g_M A V v r
  · exact ⟨r, Or.inl ⟨hM, rfl⟩⟩
  have step : ∀ n y, y ≠ v → ¬ g_C A (g_D V y) v r → g_n (fun c => g_C A (g_D V y) v c) 8 ≤ n → ∃ p, p ≠ v ∧ g_M A V v p ∧ ¬ g_C A (g_D V p) v r := by
    intro n
    induction n with
    | zero =>
      intro y h1 h2 h3
      have : 0 < g_n (fun c => g_C A (g_D V y) v c) 8 := g_n_pos 8 v (hV v h.1) (g_rf ⟨h.1, Ne.symm h1⟩)
      omega
    | succ n ih =>
      intro y h1 h2 h3
      by_cases hMy : g_M A V v y
      · exact ⟨y, h1, hMy, h2⟩
      · obtain ⟨z, z1, z2, z3, z4⟩ := g_sep hA h (Ne.symm h1) h2 hMy
        refine ih z z1 z2 ?_
        have := g_n_lt (P := fun c => g_C A (g_D V z) v c) (Q := fun c => g_C A (g_D V y) v c) 8 z (hV z (g_in z4).1) (fun c _ => z3 c) z4 (fun k => (g_in k).2 rfl)
        omega
  obtain ⟨y, y1, y2, y3⟩ : ∃ y, y ≠ v ∧ y ≠ r ∧ ¬ g_C A (g_D V y) v r := by
    refine Classical.byContradiction fun hc => hM ⟨h, fun z h1 h2 => ?_⟩
    exact Classical.byContradiction fun hcc => hc ⟨z, h1, h2, hcc⟩
  obtain ⟨p, p1, p2, p3⟩ := step _ y y1 y3 (Nat.le_refl _)
  exact ⟨p, Or.inr ⟨hM, p1, p2, p3⟩⟩
theorem g_H_un (hA : ∀ a b, A a b → A b a) (h : g_C A V v r) (h1 : g_H A V r v p) (h2 : g_H A V r v q) : p = q := by
  rcases h1 with ⟨m1, rfl⟩ | ⟨n1, p1, p2, p3⟩
  · rcases h2 with ⟨_, rfl⟩ | ⟨n2, _, _, _⟩
    · rfl
    · exact absurd m1 n2
  · rcases h2 with ⟨m2, rfl⟩ | ⟨n2, q1, q2, q3⟩
    · exact absurd m2 n1
    · refine Classical.byContradiction fun hpq => ?_
      have hrp : r ≠ p := fun e => n1 (e ▸ p2)
      have hrq : r ≠ q := fun e => n1 (e ▸ q2)
      rcases g_two (p := p) (q := q) hrp hrq hpq (g_sy hA h) with k | k | k
      · exact p3 (g_tr (g_M_c q2 (Ne.symm p1) (Ne.symm hpq)) (g_sy hA k))
      · exact q3 (g_tr (g_M_c p2 (Ne.symm q1) hpq) (g_sy hA k))
      · exact p3 (g_sy hA (g_mo k (fun _ hz => hz.1)))
/-- r comes to the head without v -/
theorem g_H_side (hA : ∀ a b, A a b → A b a) (h : g_C A V v r) (hvr : v ≠ r) (h1 : g_H A V r v p) : g_C A (g_D V v) r p := by
  rcases h1 with ⟨_, rfl⟩ | ⟨n1, p1, p2, p3⟩
  · exact g_rf ⟨g_in h, Ne.symm hvr⟩
  · have hrp : r ≠ p := fun e => n1 (e ▸ p2)
    rcases g_two (p := v) (q := p) (Ne.symm hvr) hrp (Ne.symm p1) (g_sy hA h) with k | k | k
    · exact k
    · exact absurd (g_sy hA k) p3
    · exact absurd rfl (g_in k).1.2
/-- a mate of v on r's side of v is of v's own block -/
theorem g_H_own (hA : ∀ a b, A a b → A b a) (h : g_C A V v r) (hvr : v ≠ r) (h1 : g_H A V r v p) (hu : g_M A V v u) (huv : u ≠ v) (hs : g_C A (g_D V v) r u) : g_B A V v p u := by
  have hsp := g_H_side hA h hvr h1
  have hMp := (g_H_M hvr h1).1
  have hpv := (g_H_M hvr h1).2
  refine ⟨hu, g_tr (g_sy hA hMp.1) hu.1, fun y y1 y2 => ?_⟩
  by_cases hyv : y = v
  · subst hyv
    exact g_tr (g_sy hA hsp) hs
  · exact g_tr (g_sy hA (g_M_c hMp (Ne.symm hyv) (Ne.symm y1))) (g_M_c hu (Ne.symm hyv) (Ne.symm y2))
/-- the head is the one of the block to which r comes without the others -/
theorem g_H_gate (hA : ∀ a b, A a b → A b a) (h : g_C A V v r) (hvr : v ≠ r) (h1 : g_H A V r v p) (hr : ¬ g_B A V v p r) (hw : g_B A V v p w) : g_C A (fun c => (V c ∧ ¬ g_B A V v p c) ∨ c = w) r w ↔ w = p := by
  have hMp := (g_H_M hvr h1).1
  have hpv := (g_H_M hvr h1).2
  have hVv : V v := h.1
  have hvB : g_B A V v p v := ⟨g_M_rf hVv, g_M_sy hA hMp⟩
  have hpB : g_B A V v p p := ⟨hMp, g_M_rf (g_in hMp.1)⟩
  have only : ∀ z, g_B A V v p z → g_C A (fun c => (V c ∧ ¬ g_B A V v p c) ∨ c = z) r z → z = p := by
    intro z hz k
    rcases h1 with ⟨m1, rfl⟩ | ⟨n1, p1, p2, p3⟩
    · exact absurd hpB hr
    · refine Classical.byContradiction fun hzp => p3 ?_
      have k1 : g_C A (g_D V p) r z := g_mo k (fun c hc => by
        rcases hc with hc | rfl
        · exact ⟨hc.1, fun e => hc.2 (e ▸ hpB)⟩
        · exact ⟨g_B_V hz, hzp⟩)
      exact g_tr (g_M_c hz.1 (Ne.symm p1) hzp) (g_sy hA k1)
  refine ⟨only w hw, fun e => ?_⟩
  subst e
  have ex : ∃ z, g_B A V v w z ∧ g_C A (fun c => (V c ∧ ¬ g_B A V v w c) ∨ c = z) r z := by
    have pr := g_ind (P := fun t => (∃ z, g_B A V v w z ∧ g_C A (fun c => (V c ∧ ¬ g_B A V v w c) ∨ c = z) r z) ∨ g_C A (fun c => V c ∧ ¬ g_B A V v w c) r t) (g_sy hA h) (Or.inr (g_rf ⟨g_in h, hr⟩)) (by
      intro c d _ ih e hd
      rcases ih with ih | ih
      · exact Or.inl ih
      · by_cases hdB : g_B A V v w d
        · exact Or.inl ⟨d, hdB, g_st (g_mo ih (fun _ hz => Or.inl hz)) e (Or.inr rfl)⟩
        · exact Or.inr (g_st ih e ⟨hd, hdB⟩))
    rcases pr with k | k
    · exact k
    · exact absurd hvB (g_in k).2
  obtain ⟨z, hz, k⟩ := ex
  have := only z hz k
  subst this
  exact k
/-- all posts of the own block but the head have this head -/
theorem g_H_same (hA : ∀ a b, A a b → A b a) (h : g_C A V v r) (hvr : v ≠ r) (h1 : g_H A V r v p) (hu : g_B A V v p u) (hup : u ≠ p) : u ≠ r ∧ g_C A V u r ∧ g_H A V r u p := by
  have hMp := (g_H_M hvr h1).1
  have hpv := (g_H_M hvr h1).2
  rcases h1 with ⟨m1, rfl⟩ | ⟨n1, p1, p2, p3⟩
  · exact ⟨hup, g_sy hA hu.2.1, Or.inl ⟨g_M_sy hA hu.2, rfl⟩⟩
  · have hno : ¬ g_C A (g_D V p) u r := fun k => p3 (g_tr (g_M_c hu.1 (Ne.symm p1) hup) k)
    have hur : u ≠ r := fun e => hno (e ▸ g_rf ⟨g_B_V hu, hup⟩)
    have hrp : r ≠ p := fun e => n1 (e ▸ p2)
    refine ⟨hur, g_tr (g_sy hA hu.1.1) h, Or.inr ⟨fun m => hno (g_M_c m hup hrp), Ne.symm hup, g_M_sy hA hu.2, hno⟩⟩
/-- the next head lies nearer to the root -/
theorem g_H_near (hA : ∀ a b, A a b → A b a) (h : g_C A V p r) (hpr : p ≠ r) (h1 : g_H A V r p q) : (∀ c, g_C A (g_D V q) r c ∧ q ≠ r → g_C A (g_D V p) r c) ∧ g_C A (g_D V p) r q := by
  refine ⟨fun c hc => ?_, g_H_side hA h hpr h1⟩
  rcases h1 with ⟨_, rfl⟩ | ⟨_, q1, _, q3⟩
  · exact absurd rfl hc.2
  · rcases g_one (y := p) hc.1 (Ne.symm hpr) with k | k
    · exact g_mo k (fun _ hz => ⟨hz.1.1, hz.2⟩)
    · exact absurd (g_sy hA k) q3
/-! going on with an order -/
/-- in a tight set, D taken away, the rest R hanging together with t: one but t can be taken next -/
theorem g_pick (hA : ∀ a b, A a b → A b a) (hT : g_T A T) (hF : ∀ c, T c → c < 8) {R : Nat → Prop} (hR : ∀ c, R c → T c) (ht : R t) (hc : ∀ c, R c → g_C A R t c) {d0 : Nat} (hd : T d0) (hd' : ¬ R d0) {w0 : Nat} (hw0 : R w0) (hw0t : w0 ≠ t) : ∃ p, R p ∧ p ≠ t ∧ (∃ e, T e ∧ ¬ R e ∧ A p e) ∧ ∀ c, R c → c ≠ p → g_C A (g_D R p) t c := by
  have first : ∃ p, R p ∧ p ≠ t ∧ ∃ e, T e ∧ ¬ R e ∧ A p e := by
    have k := hT.2 t w0 d0 (hR _ hw0) hd hw0t (fun e => hd' (e ▸ ht))
    have pr := g_ind (P := fun c => (∃ p, R p ∧ p ≠ t ∧ ∃ e, T e ∧ ¬ R e ∧ A p e) ∨ R c) k (Or.inr hw0) (by
      intro c d hc ih e hd
      rcases ih with ih | ih
      · exact Or.inl ih
      · by_cases hRd : R d
        · exact Or.inr hRd
        · exact Or.inl ⟨c, ih, (g_in hc).2, d, hd.1, hRd, e⟩)
    exact pr.resolve_right hd'
  have step : ∀ n p, R p → p ≠ t → (∃ e, T e ∧ ¬ R e ∧ A p e) → g_n (fun c => R c ∧ c ≠ p ∧ ¬ g_C A (g_D R p) t c) 8 ≤ n → ∃ p, R p ∧ p ≠ t ∧ (∃ e, T e ∧ ¬ R e ∧ A p e) ∧ ∀ c, R c → c ≠ p → g_C A (g_D R p) t c := by
    intro n
    induction n with
    | zero =>
      intro p hp hpt he hn
      refine ⟨p, hp, hpt, he, fun c hRc hcp => Classical.byContradiction fun hno => ?_⟩
      have := g_n_pos (P := fun c => R c ∧ c ≠ p ∧ ¬ g_C A (g_D R p) t c) 8 c (hF c (hR c hRc)) ⟨hRc, hcp, hno⟩
      omega
    | succ n ih =>
      intro p hp hpt he hn
      by_cases hK : ∃ q, (R q ∧ q ≠ p ∧ ¬ g_C A (g_D R p) t q) ∧ ∃ e, T e ∧ ¬ R e ∧ A q e
      · obtain ⟨q, ⟨q1, q2, q3⟩, qe⟩ := hK
        have hqt : q ≠ t := fun e => q3 (by rw [e]; exact g_rf ⟨ht, Ne.symm hpt⟩)
        refine ih q q1 hqt qe ?_
        have := g_n_lt (P := fun c => R c ∧ c ≠ q ∧ ¬ g_C A (g_D R q) t c) (Q := fun c => R c ∧ c ≠ p ∧ ¬ g_C A (g_D R p) t c) 8 q (hF q (hR q q1)) (by
          rintro c - ⟨c1, c2, c3⟩
          have hcp : c ≠ p := by
            intro e
            subst e
            rcases g_two (p := q) (q := c) (Ne.symm hqt) (Ne.symm hpt) q2 (hc c c1) with k | k | k
            · exact c3 k
            · exact q3 k
            · exact (g_in k).2 rfl
          refine ⟨c1, hcp, fun k => c3 ?_⟩
          rcases g_one (y := q) k (Ne.symm hqt) with k2 | k2
          · exact g_mo k2 (fun _ hz => ⟨hz.1.1, hz.2⟩)
          · exact absurd k2 q3) ⟨q1, q2, q3⟩ (fun z => z.2.1 rfl)
        omega
      · refine ⟨p, hp, hpt, he, fun c hRc hcp => Classical.byContradiction fun hno => ?_⟩
        have k := hT.2 p c d0 (hR _ hRc) hd hcp (fun e => hd' (e ▸ hp))
        have pr := g_ind (P := fun w => R w ∧ w ≠ p ∧ ¬ g_C A (g_D R p) t w) k ⟨hRc, hcp, hno⟩ (by
          intro c d _ ihc e hd
          by_cases hRd : R d
          · exact ⟨hRd, hd.2, fun kd => ihc.2.2 (g_st kd (hA _ _ e) ⟨ihc.1, ihc.2.1⟩)⟩
          · exact absurd ⟨c, ihc, d, hd.1, hRd, e⟩ hK)
        exact hd' pr.1
  obtain ⟨p, p1, p2, p3⟩ := first
  exact step _ p p1 p2 p3 (Nat.le_refl _)
end G1
