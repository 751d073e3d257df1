/-! ===== orders: rows from a head to a last, the first of them ===== -/
theorem g_n_inj2 (N : Nat) (R : Nat → Nat → Prop) (hR : ∀ c d v, c < N → d < N → R c v → R d v → c = d) : ∀ (M : Nat) (P Q : Nat → Prop), (∀ c, c < N → P c → ∃ v, v < M ∧ Q v ∧ R c v) → g_n P N ≤ g_n Q M
  | 0, P, Q, h => by
    rw [g_n_zero N (fun c hc hp => by obtain ⟨v, hv, _⟩ := h c hc hp; omega)]
    exact Nat.zero_le _
  | M + 1, P, Q, h => by
    by_cases hQ : Q M
    · rw [g_n_step M hQ]
      have e := g_n_split (P := P) (Q := fun c => R c M) N
      have h1 : g_n (fun c => P c ∧ R c M) N ≤ 1 := g_n_atmost N (fun j k hj hk a b => hR j k M hj hk a.2 b.2)
      have h2 : g_n (fun c => P c ∧ ¬ R c M) N ≤ g_n Q M := g_n_inj2 N R hR M _ Q (fun c hc hp => by
        obtain ⟨v, hv, hq, hr⟩ := h c hc hp.1
        refine ⟨v, ?_, hq, hr⟩
        have : v ≠ M := fun e => hp.2 (e ▸ hr)
        omega)
      omega
    · rw [g_n_stay M hQ]
      refine g_n_inj2 N R hR M P Q (fun c hc hp => ?_)
      obtain ⟨v, hv, hq, hr⟩ := h c hc hp
      refine ⟨v, ?_, hq, hr⟩
      have : v ≠ M := fun e => hQ (e ▸ hq)
      omega
/-- the i-th of those with P -/
theorem g_n_sel {P : Nat → Prop} : ∀ {N i : Nat}, i < g_n P N → ∃ p, p < N ∧ P p ∧ g_n P p = i
  | 0, i, h => by rw [g_n] at h; omega
  | N + 1, i, h => by
    by_cases hP : P N
    · rw [g_n_step N hP] at h
      by_cases e : i = g_n P N
      · exact ⟨N, by omega, hP, e.symm⟩
      · obtain ⟨p, p1, p2⟩ := g_n_sel (P := P) (N := N) (i := i) (by omega)
        exact ⟨p, by omega, p2⟩
    · rw [g_n_stay N hP] at h
      obtain ⟨p, p1, p2⟩ := g_n_sel (P := P) (N := N) (i := i) h
      exact ⟨p, by omega, p2⟩
section O1
variable {A : Nat → Nat → Prop} {B : Nat → Prop} {h t m : Nat} {f g : Nat → Nat}
/-- f lists B, from h to t -/
def od_r (B : Nat → Prop) (h t m : Nat) (f : Nat → Nat) : Prop := 2 ≤ m ∧ f 0 = h ∧ f (m - 1) = t ∧ (∀ i, i < m → B (f i)) ∧ (∀ i j, i < m → j < m → f i = f j → i = j) ∧ ∀ c, B c → ∃ i, i < m ∧ f i = c
/-- each but the ends has a link to one ahead and to one behind -/
def od_k (A : Nat → Nat → Prop) (m : Nat) (f : Nat → Nat) : Prop := ∀ i, 0 < i → i + 1 < m → (∃ j, j < i ∧ A (f i) (f j)) ∧ ∃ j, i < j ∧ j < m ∧ A (f i) (f j)
/-- f is g, or ahead of it -/
def lx (m : Nat) (f g : Nat → Nat) : Prop := (∀ i, i < m → f i = g i) ∨ ∃ i, i < m ∧ (∀ j, j < i → f j = g j) ∧ f i < g i
/-- f is the order -/
def od_1 (A : Nat → Nat → Prop) (B : Nat → Prop) (h t m : Nat) (f : Nat → Nat) : Prop := od_r B h t m f ∧ od_k A m f ∧ ∀ g, od_r B h t m g → od_k A m g → lx m f g
theorem lx_as (h1 : lx m f g) (h2 : lx m g f) : ∀ i, i < m → f i = g i := by
  rcases h1 with h1 | ⟨i, i1, i2, i3⟩
  · exact h1
  · rcases h2 with h2 | ⟨j, j1, j2, j3⟩
    · exact fun i hi => (h2 i hi).symm
    · exfalso
      rcases Nat.lt_trichotomy i j with e | e | e
      · have := j2 i e; omega
      · subst e; omega
      · have := i2 j e; omega
theorem od_1_un (h1 : od_1 A B h t m f) (h2 : od_1 A B h t m g) : ∀ i, i < m → f i = g i := lx_as (h1.2.2 g h2.1 h2.2.1) (h2.2.2 f h1.1 h1.2.1)
theorem od_r_m (hB : ∀ c, B c → c < 8) (h1 : od_r B h t m f) : g_n B 8 = m := by
  obtain ⟨r1, r2, r3, r4, r5, r6⟩ := h1
  have a1 : g_n B 8 ≤ m := g_n_php 8 (fun c i => f i = c) (fun c d v _ _ e1 e2 => e1.symm.trans e2) m B (fun c _ hc => r6 c hc)
  have a2 : g_n (fun i => i < m) m ≤ g_n B 8 := g_n_inj2 m (fun i c => f i = c) (fun c d v hc hd e1 e2 => r5 c d hc hd (e1.trans e2.symm)) 8 _ B (fun i hi _ => ⟨f i, hB _ (r4 i hi), r4 i hi, rfl⟩)
  have a3 : g_n (fun i => i < m) m = m := by
    have : ∀ k, k ≤ m → g_n (fun i => i < m) k = k := by
      intro k
      induction k with
      | zero => exact fun _ => rfl
      | succ k ih => intro hk; rw [g_n_step k (by omega), ih (by omega)]
    exact this m (Nat.le_refl _)
  omega
/-- two rows alike up to d: what stands there in the one stands there or later in the other -/
theorem od_rest (h1 : od_r B h t m f) (h2 : od_r B h t m g) {d : Nat} (hd : d < m) (he : ∀ i, i < d → f i = g i) : ∃ k, d ≤ k ∧ k < m ∧ f k = g d := by
  obtain ⟨k, k1, k2⟩ := h1.2.2.2.2.2 (g d) (h2.2.2.2.1 d hd)
  refine ⟨k, ?_, k1, k2⟩
  refine Classical.byContradiction fun hlt => ?_
  have e := he k (by omega)
  have := h2.2.2.2.2.1 k d k1 hd (e.symm.trans k2)
  omega
/-! going on greedily -/
/-- what is left behind the first j -/
def od_l (B : Nat → Prop) (f : Nat → Nat) (j : Nat) : Nat → Prop := fun c => B c ∧ ∀ i, i < j → f i ≠ c
/-- the first j of the order stand -/
def od_p (A : Nat → Nat → Prop) (B : Nat → Prop) (h t m : Nat) (f : Nat → Nat) (j : Nat) : Prop :=
  0 < j ∧ f 0 = h ∧ (∀ i, i < j → B (f i)) ∧ (∀ i k, i < j → k < j → f i = f k → i = k) ∧ od_l B f j t ∧ (∀ c, od_l B f j c → g_C A (od_l B f j) t c) ∧
  (∀ i, 0 < i → i < j → (∃ k, k < i ∧ A (f i) (f k)) ∧ ∃ c, B c ∧ A (f i) c ∧ ∀ k, k ≤ i → f k ≠ c) ∧
  ∀ g, od_r B h t m g → od_k A m g → (∀ i, i < j → f i = g i) ∨ ∃ i, i < j ∧ (∀ k, k < i → f k = g k) ∧ f i < g i
/-- p can be next -/
def od_c (A : Nat → Nat → Prop) (B : Nat → Prop) (f : Nat → Nat) (j t p : Nat) : Prop := p ≠ t ∧ od_l B f j p ∧ (∃ i, i < j ∧ A p (f i)) ∧ ∀ c, od_l B f j c → c ≠ p → g_C A (g_D (od_l B f j) p) t c
theorem od_l_cong {j : Nat} (he : ∀ i, i < j → f i = g i) (c : Nat) : od_l B f j c ↔ od_l B g j c :=
  ⟨fun k => ⟨k.1, fun i hi => (he i hi) ▸ k.2 i hi⟩, fun k => ⟨k.1, fun i hi => (he i hi) ▸ k.2 i hi⟩⟩
/-- in an order each one can be next -/
theorem od_c_of (hA : ∀ a b, A a b → A b a) (h2 : od_r B h t m g) (k2 : od_k A m g) {j : Nat} (hj0 : 0 < j) (hj : j + 1 < m) (he : ∀ i, i < j → f i = g i) : od_c A B f j t (g j) := by
  obtain ⟨r1, r2, r3, r4, r5, r6⟩ := h2
  have hnt : ∀ i, i + 1 < m → g i ≠ t := fun i hi e => by
    have := r5 i (m - 1) (by omega) (by omega) (e.trans r3.symm)
    omega
  refine ⟨hnt j hj, (od_l_cong he _).mpr ⟨r4 j (by omega), fun i hi e => by have := r5 i j (by omega) (by omega) e; omega⟩, ?_, ?_⟩
  · obtain ⟨i, i1, i2⟩ := (k2 j hj0 hj).1
    exact ⟨i, i1, by rw [he i i1]; exact i2⟩
  · have mem : ∀ i, j < i → i < m → g_D (od_l B f j) (g j) (g i) := fun i h1 h2 =>
      ⟨(od_l_cong he _).mpr ⟨r4 i h2, fun k hk e => by have := r5 k i (by omega) h2 e; omega⟩, fun e => by have := r5 i j h2 (by omega) e; omega⟩
    have back : ∀ n i, m - 1 - i ≤ n → j < i → i < m → g_C A (g_D (od_l B f j) (g j)) t (g i) := by
      intro n
      induction n with
      | zero =>
        intro i h1 h2 h3
        have : i = m - 1 := by omega
        subst this
        have := mem (m - 1) h2 h3
        rw [r3] at this ⊢
        exact g_rf this
      | succ n ih =>
        intro i h1 h2 h3
        by_cases e : i = m - 1
        · subst e
          have := mem (m - 1) h2 h3
          rw [r3] at this ⊢
          exact g_rf this
        · obtain ⟨k, k1, k3, k4⟩ := (k2 i (by omega) (by omega)).2
          exact g_st (ih k (by omega) (by omega) k3) (hA _ _ k4) (mem i h2 h3)
    intro c hc hcp
    obtain ⟨i, i1, i2⟩ := r6 c hc.1
    have hij : j < i := by
      refine Classical.byContradiction fun hlt => ?_
      by_cases e : i = j
      · subst e; exact hcp i2.symm
      · exact hc.2 i (by omega) ((he i (by omega)).trans i2)
    rw [← i2]
    exact back m i (by omega) hij i1
theorem od_p_1 (hA : ∀ a b, A a b → A b a) (hT : g_T A B) (hh : B h) (ht : B t) (hht : h ≠ t) (hf : f 0 = h) : od_p A B h t m f 1 := by
  have hl : ∀ c, od_l B f 1 c ↔ g_D B h c := fun c =>
    ⟨fun k => ⟨k.1, fun e => k.2 0 (by omega) (hf.trans e.symm)⟩, fun k => ⟨k.1, fun i hi e => by
      have : i = 0 := by omega
      subst this
      exact k.2 (e.symm.trans hf)⟩⟩
  refine ⟨by omega, hf, fun i hi => ?_, fun i k hi hk _ => by omega, (hl t).mpr ⟨ht, Ne.symm hht⟩, fun c hc => ?_, fun i h1 h2 => by omega, fun g hg _ => Or.inl fun i hi => ?_⟩
  · rw [show i = 0 by omega, hf]; exact hh
  · have hc' := (hl c).mp hc
    exact (g_C_eq hl).mpr (hT.2 h t c ht hc'.1 (Ne.symm hht) hc'.2)
  · rw [show i = 0 by omega, hf, hg.2.1]
/-- one more, the least that can be next -/
theorem od_p_step (hA : ∀ a b, A a b → A b a) {j p : Nat} (hp : od_p A B h t m f j) (hf : f j = p) (hc : od_c A B f j t p) (hmin : ∀ q, q < p → ¬ od_c A B f j t q) : od_p A B h t m f (j + 1) := by
  obtain ⟨p1, p2, p3, p4, p5, p6, p7, p8⟩ := hp
  obtain ⟨c1, c2, c3, c4⟩ := hc
  have hl : ∀ c, od_l B f (j + 1) c ↔ g_D (od_l B f j) p c := fun c =>
    ⟨fun k => ⟨⟨k.1, fun i hi => k.2 i (by omega)⟩, fun e => k.2 j (by omega) (hf.trans e.symm)⟩, fun k => ⟨k.1.1, fun i hi e => by
      by_cases ei : i = j
      · subst ei; exact k.2 (e.symm.trans hf)
      · exact k.1.2 i (by omega) e⟩⟩
  refine ⟨by omega, p2, fun i hi => ?_, fun i k hi hk e => ?_, (hl t).mpr ⟨p5, Ne.symm c1⟩, fun c hc => ?_, fun i h1 h2 => ?_, fun g hg hgk => ?_⟩
  · by_cases ei : i = j
    · rw [ei, hf]; exact c2.1
    · exact p3 i (by omega)
  · by_cases ei : i = j
    · by_cases ek : k = j
      · omega
      · exact absurd (e.symm.trans (ei ▸ hf)) (c2.2 k (by omega))
    · by_cases ek : k = j
      · exact absurd (e.trans (ek ▸ hf)) (c2.2 i (by omega))
      · exact p4 i k (by omega) (by omega) e
  · have hc' := (hl c).mp hc
    exact (g_C_eq hl).mpr (c4 c hc'.1 hc'.2)
  · by_cases ei : i = j
    · subst ei
      rw [hf]
      refine ⟨c3, ?_⟩
      have hreach := g_sy hA (p6 p c2)
      obtain ⟨u, u1, u2⟩ := g_first hreach (Ne.symm c1)
      refine ⟨u, u2.1.1.1, u1, fun k hk e => ?_⟩
      by_cases ek : k = i
      · subst ek; exact u2.1.2 (e.symm.trans hf)
      · exact u2.1.1.2 k (by omega) e
    · exact p7 i h1 (by omega)
  · rcases p8 g hg hgk with k | ⟨i, i1, i2, i3⟩
    · have hjm : j + 1 < m := by
        have hp' : ∃ i, i < m ∧ g i = p := hg.2.2.2.2.2 p c2.1
        obtain ⟨i, e1, e2⟩ := hp'
        have hij : j ≤ i := Classical.byContradiction fun hlt => c2.2 i (by omega) ((k i (by omega)).trans e2)
        have : i ≠ m - 1 := fun e => c1 (by rw [← e2, e, hg.2.2.1])
        omega
      have hcg := od_c_of hA hg hgk p1 hjm k
      by_cases e : g j = p
      · refine Or.inl fun i hi => ?_
        by_cases ei : i = j
        · subst ei; rw [hf, e]
        · exact k i (by omega)
      · refine Or.inr ⟨j, by omega, k, ?_⟩
        rw [hf]
        have : ¬ g j < p := fun hlt => hmin _ hlt hcg
        omega
    · exact Or.inr ⟨i, by omega, i2, i3⟩
/-- there is one that can be next, as long as more than t is left -/
theorem od_c_ex (hA : ∀ a b, A a b → A b a) (hT : g_T A B) (hB : ∀ c, B c → c < 8) {j w : Nat} (hp : od_p A B h t m f j) (hw : od_l B f j w) (hwt : w ≠ t) : ∃ p, od_c A B f j t p := by
  obtain ⟨p1, p2, p3, p4, p5, p6, p7, p8⟩ := hp
  obtain ⟨p, q1, q2, ⟨e, e1, e2, e3⟩, q4⟩ := g_pick hA hT hB (R := od_l B f j) (fun c hc => hc.1) p5 p6 (d0 := f 0) (p3 0 p1) (fun k => k.2 0 p1 rfl) hw hwt
  refine ⟨p, q2, q1, ?_, q4⟩
  obtain ⟨i, i1, i2⟩ : ∃ i, i < j ∧ f i = e := by
    refine Classical.byContradiction fun hc => e2 ⟨e1, fun i hi k => hc ⟨i, hi, k⟩⟩
  exact ⟨i, i1, by rw [i2]; exact e3⟩
/-- all but t stand: t comes last -/
theorem od_p_end {j : Nat} (hp : od_p A B h t m f j) (hf : f j = t) (hall : ∀ w, od_l B f j w → w = t) (hm : m = j + 1) : od_1 A B h t m f := by
  subst hm
  obtain ⟨p1, p2, p3, p4, p5, p6, p7, p8⟩ := hp
  have hin : ∀ c, B c → ∃ i, i < j + 1 ∧ f i = c := fun c hc => by
    refine Classical.byContradiction fun hno => ?_
    have : c = t := hall c ⟨hc, fun i hi e => hno ⟨i, by omega, e⟩⟩
    exact hno ⟨j, by omega, hf.trans this.symm⟩
  have hr : od_r B h t (j + 1) f := by
    refine ⟨by omega, p2, by rw [show j + 1 - 1 = j by omega]; exact hf, fun i hi => ?_, fun i k hi hk e => ?_, hin⟩
    · by_cases ei : i = j
      · rw [ei, hf]; exact p5.1
      · exact p3 i (by omega)
    · by_cases ei : i = j
      · by_cases ek : k = j
        · omega
        · exact absurd (e.symm.trans (ei ▸ hf)) (p5.2 k (by omega))
      · by_cases ek : k = j
        · exact absurd (e.trans (ek ▸ hf)) (p5.2 i (by omega))
        · exact p4 i k (by omega) (by omega) e
  refine ⟨hr, fun i h1 h2 => ?_, fun g hg hgk => ?_⟩
  · obtain ⟨a1, c, c1, c2, c3⟩ := p7 i h1 (by omega)
    refine ⟨a1, ?_⟩
    obtain ⟨k, k1, k2⟩ := hin c c1
    refine ⟨k, ?_, k1, by rw [k2]; exact c2⟩
    exact Classical.byContradiction fun hlt => c3 k (by omega) k2
  · rcases p8 g hg hgk with k | ⟨i, i1, i2, i3⟩
    · refine Or.inl fun i hi => ?_
      by_cases ei : i = j
      · rw [ei, hf, ← hg.2.2.1, show j + 1 - 1 = j by omega]
      · exact k i (by omega)
    · exact Or.inr ⟨i, by omega, i2, i3⟩
theorem od_p_cong {j : Nat} (he : ∀ i, i < j → f i = g i) (hp : od_p A B h t m f j) : od_p A B h t m g j := by
  obtain ⟨p1, p2, p3, p4, p5, p6, p7, p8⟩ := hp
  have hlc := fun c => od_l_cong (B := B) he c
  refine ⟨p1, by rw [← he 0 p1]; exact p2, fun i hi => by rw [← he i hi]; exact p3 i hi, fun i k hi hk => by rw [← he i hi, ← he k hk]; exact p4 i k hi hk, (hlc t).mp p5, fun c hc => (g_C_eq hlc).mp (p6 c ((hlc c).mpr hc)), fun i h1 h2 => ?_, fun g' hg hgk => ?_⟩
  · obtain ⟨⟨k, k1, k2⟩, c, c1, c2, c3⟩ := p7 i h1 h2
    rw [← he i h2]
    exact ⟨⟨k, k1, by rw [← he k (by omega)]; exact k2⟩, c, c1, c2, fun k hk => by rw [← he k (by omega)]; exact c3 k hk⟩
  · rcases p8 g' hg hgk with k | ⟨i, i1, i2, i3⟩
    · exact Or.inl fun i hi => by rw [← he i hi]; exact k i hi
    · exact Or.inr ⟨i, i1, fun k hk => by rw [← he k (by omega)]; exact i2 k hk, by rw [← he i i1]; exact i3⟩
theorem od_c_cong {j : Nat} (he : ∀ i, i < j → f i = g i) (q : Nat) : od_c A B f j t q ↔ od_c A B g j t q := by
  unfold od_c
  rw [show od_l B f j = od_l B g j from funext fun c => propext (od_l_cong he c)]
  refine and_congr Iff.rfl (and_congr Iff.rfl (and_congr ⟨?_, ?_⟩ Iff.rfl))
  · rintro ⟨i, i1, i2⟩
    exact ⟨i, i1, by rw [← he i i1]; exact i2⟩
  · rintro ⟨i, i1, i2⟩
    exact ⟨i, i1, by rw [he i i1]; exact i2⟩
theorem g_n_below {j : Nat} : ∀ k, k ≤ j → g_n (fun i => i < j) k = k
  | 0, _ => rfl
  | k + 1, hk => by rw [g_n_step k (by omega), g_n_below k (by omega)]
theorem od_p_cnt (hB : ∀ c, B c → c < 8) {j : Nat} (hp : od_p A B h t m f j) : g_n B 8 = j + g_n (od_l B f j) 8 := by
  have e := g_n_split (P := B) (Q := fun c => ∃ i, i < j ∧ f i = c) 8
  have h1 : g_n (fun c => B c ∧ ∃ i, i < j ∧ f i = c) 8 ≤ j := g_n_php 8 (fun c i => f i = c) (fun c d v _ _ e1 e2 => e1.symm.trans e2) j _ (fun c _ hc => hc.2)
  have h2 : g_n (fun i => i < j) j ≤ g_n (fun c => B c ∧ ∃ i, i < j ∧ f i = c) 8 := g_n_inj2 j (fun i c => f i = c) (fun c d v hc hd e1 e2 => hp.2.2.2.1 c d hc hd (e1.trans e2.symm)) 8 _ _ (fun i hi _ => ⟨f i, hB _ (hp.2.2.1 i hi), ⟨hp.2.2.1 i hi, i, hi, rfl⟩, rfl⟩)
  rw [g_n_below j (Nat.le_refl _)] at h2
  have h3 : g_n (fun c => B c ∧ ¬ ∃ i, i < j ∧ f i = c) 8 = g_n (od_l B f j) 8 := g_n_cong 8 (fun c _ => ⟨fun k => ⟨k.1, fun i hi e => k.2 ⟨i, hi, e⟩⟩, fun k => ⟨k.1, fun ⟨i, i1, i2⟩ => k.2 i i1 i2⟩⟩)
  omega
theorem od_p_two (hB : ∀ c, B c → c < 8) {j w : Nat} (hp : od_p A B h t m f j) (hw : od_l B f j w) (hwt : w ≠ t) : j + 2 ≤ g_n B 8 := by
  have := od_p_cnt hB hp
  have := g_n_two (P := od_l B f j) 8 w t hwt (hB w hw.1) (hB t hp.2.2.2.2.1.1) hw hp.2.2.2.2.1
  omega
theorem od_p_all (hB : ∀ c, B c → c < 8) {j : Nat} (hp : od_p A B h t m f j) (hall : ∀ w, od_l B f j w → w = t) : g_n B 8 = j + 1 := by
  rw [od_p_cnt hB hp, g_n_one (P := od_l B f j) 8 t (hB t hp.2.2.2.2.1.1) hp.2.2.2.2.1 (fun c _ hc => hall c hc)]
theorem g_min {P : Nat → Prop} {p : Nat} (hp : P p) : ∃ q, P q ∧ ∀ r, r < q → ¬ P r := by
  induction p using Nat.strongRecOn with
  | _ p ih =>
    by_cases hq : ∃ q, q < p ∧ P q
    · obtain ⟨q, q1, q2⟩ := hq
      exact ih q q1 q2
    · exact ⟨p, hp, fun q hqp hc => hq ⟨q, hqp, hc⟩⟩
theorem od_set {j p : Nat} : ∀ i, i < j → f i = (fun i => if i = j then p else f i) i := fun i hi => by
  show f i = if i = j then p else f i
  rw [if_neg (by omega)]
theorem od_put {j p : Nat} : (fun i => if i = j then p else f i) j = p := by
  show (if j = j then p else f j) = p
  rw [if_pos rfl]
theorem od_p_put (hA : ∀ a b, A a b → A b a) {j p : Nat} (hp : od_p A B h t m f j) (hc : od_c A B f j t p) (hmin : ∀ q, q < p → ¬ od_c A B f j t q) : od_p A B h t m (fun i => if i = j then p else f i) (j + 1) :=
  od_p_step hA (od_p_cong od_set hp) od_put ((od_c_cong od_set p).mp hc) (fun q hq k => hmin q hq ((od_c_cong od_set q).mpr k))
theorem od_p_last {j : Nat} (hp : od_p A B h t m f j) (hall : ∀ w, od_l B f j w → w = t) (hm : m = j + 1) : od_1 A B h t m (fun i => if i = j then t else f i) :=
  od_p_end (od_p_cong od_set hp) od_put (fun w hw => hall w ((od_l_cong od_set w).mpr hw)) hm
/-- a tight set has an order -/
theorem od_ex (hA : ∀ a b, A a b → A b a) (hT : g_T A B) (hB : ∀ c, B c → c < 8) (hh : B h) (ht : B t) (hht : h ≠ t) : ∃ f, od_1 A B h t (g_n B 8) f := by
  have step : ∀ n j (f : Nat → Nat), j + n = g_n B 8 → od_p A B h t (g_n B 8) f j → ∃ f, od_1 A B h t (g_n B 8) f := by
    intro n
    induction n with
    | zero =>
      intro j f hj hp
      have := od_p_cnt hB hp
      have := g_n_pos (P := od_l B f j) 8 t (hB t ht) hp.2.2.2.2.1
      omega
    | succ n ih =>
      intro j f hj hp
      by_cases hall : ∀ w, od_l B f j w → w = t
      · exact ⟨_, od_p_last hp hall (od_p_all hB hp hall)⟩
      · obtain ⟨w, hw⟩ := Classical.not_forall.mp hall
        have hw1 : od_l B f j w := Classical.byContradiction fun z => hw (fun k => absurd k z)
        have hw2 : w ≠ t := fun e => hw (fun _ => e)
        obtain ⟨p, hc⟩ := od_c_ex hA hT hB hp hw1 hw2
        obtain ⟨p, hc, hmin⟩ := g_min (P := od_c A B f j t) hc
        exact ih (j + 1) _ (by omega) (od_p_put hA hp hc hmin)
  have h2 : 2 ≤ g_n B 8 := g_n_two 8 h t hht (hB h hh) (hB t ht) hh ht
  exact step (g_n B 8 - 1) 1 (fun _ => h) (by omega) (od_p_1 hA hT hh ht hht rfl)
end O1
