/-! ===== the text: the class's state out of it ===== -/
section TQ
variable {B : Nat → Nat} {b N k t m np rt : Nat} {x x' x0 s : mX}
/-- the draft as a state -/
def sgX (x : mX) (c : Nat) : Int32 := if c = 0 then x.1 2 2 else if c = 1 then x.1 2 3 else if c = 2 then x.1 2 5 else if c = 3 then x.1 2 6 else if c = 4 then x.1 2 1 else if c < 8 then x.1 2 (c + 2) else if c < 24 then x.1 3 (c - 8) else if c < 40 then x.1 4 (c - 24) else if c < 56 then x.1 5 (c - 40) else x.1 6 (c - 56)
theorem sgX_l {l : Nat} (hl : l < 16) : sgX x (8 + l) = x.1 3 l ∧ sgX x (24 + l) = x.1 4 l ∧ sgX x (40 + l) = x.1 5 l ∧ sgX x (56 + l) = x.1 6 l := by
  unfold sgX
  refine ⟨?_, ?_, ?_, ?_⟩
  · rw [if_neg (by omega), if_neg (by omega), if_neg (by omega), if_neg (by omega), if_neg (by omega), if_neg (by omega), if_pos (by omega), show 8 + l - 8 = l by omega]
  · rw [if_neg (by omega), if_neg (by omega), if_neg (by omega), if_neg (by omega), if_neg (by omega), if_neg (by omega), if_neg (by omega), if_pos (by omega), show 24 + l - 24 = l by omega]
  · rw [if_neg (by omega), if_neg (by omega), if_neg (by omega), if_neg (by omega), if_neg (by omega), if_neg (by omega), if_neg (by omega), if_neg (by omega), if_pos (by omega), show 40 + l - 40 = l by omega]
  · rw [if_neg (by omega), if_neg (by omega), if_neg (by omega), if_neg (by omega), if_neg (by omega), if_neg (by omega), if_neg (by omega), if_neg (by omega), if_neg (by omega), show 56 + l - 56 = l by omega]
theorem sgX_c : sgX x 0 = x.1 2 2 ∧ sgX x 1 = x.1 2 3 ∧ sgX x 2 = x.1 2 5 ∧ sgX x 3 = x.1 2 6 ∧ sgX x 4 = x.1 2 1 ∧ sgX x 5 = x.1 2 7 ∧ sgX x 6 = x.1 2 8 ∧ sgX x 7 = x.1 2 9 := ⟨rfl, rfl, rfl, rfl, rfl, rfl, rfl, rfl⟩
theorem sgX_m (h : x.1 2 1 = nI m) (m16 : m ≤ 16) : sm (sgX x) = m := by
  unfold sm
  rw [sgX_c.2.2.2.2.1, h, cl (by omega)]
theorem sR_x (h0 : x.1 2 0 = nI np) (h1 : x.1 2 1 = nI m) (m16 : m ≤ 16) (h4 : x.1 2 4 = nI rt) : sR x.1 2 (sgX x) np rt := by
  refine ⟨h0, rfl, rfl, rfl, h4, rfl, rfl, rfl, rfl, rfl, fun l hl => ?_⟩
  rw [sgX_m h1 m16] at hl
  obtain ⟨a1, a2, a3, a4⟩ := sgX_l (x := x) (show l < 16 by omega)
  exact ⟨a1.symm, a2.symm, a3.symm, a4.symm⟩
/-- no line has a fault -/
def nfX (B : Nat → Nat) (b N : Nat) : Prop := ∀ k, k < N → (lnF (kdK B b) (Wd B b) (Vd B b) N k).1 = 0
theorem nf_20 (h : nfX B b N) : ∀ j, j < N → kdK B b j = 20 → Kfp (kdK B b) (Wd B b) j = 20 := fun j hj h20 => by
  have u := h j hj
  rw [lnF_20 h20] at u
  have f1 := (fsT_ok (K := kdK B b) (W := Wd B b) (w := Wd B b (j + 1)) j).1
  by_cases d : fsT (kdK B b) (Wd B b) (Wd B b (j + 1)) j < j
  · rw [if_pos d] at u
    exact absurd u (show ¬ (3 = 0) by decide)
  · exact Kfp_20.mpr ⟨h20, by omega⟩
theorem nf_ix (h : nfX B b N) {j : Nat} (hj : j ≤ N) : ixX B b j = iyY B b j := Kfp_all j (fun i hi h20 => nf_20 h i (by omega) h20)
theorem nf_np (h : nfX B b N) (c : fpT B b N t < N) : ixT B b N t < cNk (kdK B b) 20 N := by
  have a := cNk_lt c (fsT_f c)
  have e : cNk (Kfp (kdK B b) (Wd B b)) 20 N = cNk (kdK B b) 20 N := nf_ix h (Nat.le_refl _)
  rw [e] at a
  exact a
theorem nf_21 (h : nfX B b N) (hk : k < N) (c : kdK B b k = 21) : fpT B b N (k + 1) < N ∧ fpT B b N (k + 2) < N ∧ Wd B b (k + 1) ≠ Wd B b (k + 2) ∧ ¬ lkB (kdK B b) (Wd B b) k k = true ∧ 1 ≤ Vd B b (k + 3) ∧ Vd B b (k + 3) ≤ 99 := by
  have u := h k hk
  obtain ⟨k1, k2, k3⟩ := kn_no (Or.inl c) u
  have k1' : fsT (kdK B b) (Wd B b) (Wd B b (k + 1)) N < N := k1
  have k2' : fsT (kdK B b) (Wd B b) (Wd B b (k + 2)) N < N := k2
  rw [lnF_21 (Or.inl c), if_pos k1', if_pos k2', if_neg (by omega)] at u
  by_cases d : Wd B b (k + 1) = Wd B b (k + 2) ∨ lkB (kdK B b) (Wd B b) k k = true
  · rw [if_pos d] at u
    exact absurd u (show ¬ (3 = 0) by decide)
  · rw [if_neg d] at u
    by_cases e : 1 ≤ Vd B b (k + 3) ∧ Vd B b (k + 3) ≤ 99
    · exact ⟨k1, k2, k3, fun z => d (Or.inr z), e⟩
    · rw [if_neg e] at u
      exact absurd u (show ¬ (5 = 0) by decide)
theorem nf_1 (h : nfX B b N) (hk : k < N) (c : kdK B b k = 22 ∨ kdK B b k = 23) : fpT B b N (k + 1) < N := by
  have u := h k hk
  rw [lnF_22 c] at u
  by_cases d : fsT (kdK B b) (Wd B b) (Wd B b (k + 1)) N < N
  · exact d
  · rw [if_neg d] at u
    exact absurd u (show ¬ (4 = 0) by decide)
/-- the two of a link, by numbers -/
def lkE (B : Nat → Nat) (b N l i c : Nat) : Prop := i = ixT B b N (nTk (kdK B b) 21 N l + 1) ∧ c = ixT B b N (nTk (kdK B b) 21 N l + 2)
/-- a link told down -/
def dnK (B : Nat → Nat) (b N l : Nat) : Prop := ∃ i, i < N ∧ kdK B b i = 24 ∧ prB (Wd B b) i (nTk (kdK B b) 21 N l) = true
theorem lkX_at (hl : lkX B b N N x) {l : Nat} (h : l < cNk (kdK B b) 21 N) : x.1 3 l = nI (ixT B b N (nTk (kdK B b) 21 N l + 1)) ∧ x.1 4 l = nI (ixT B b N (nTk (kdK B b) 21 N l + 2)) ∧ x.1 5 l = nI (Vd B b (nTk (kdK B b) 21 N l + 3)) ∧ x.1 6 l = 0 := by
  obtain ⟨q1, q2, q3⟩ := nTk_ok (K := kdK B b) (q := 21) N l h
  have u := hl _ q1 q2
  rw [q3] at u
  exact u
theorem sW_x (h : txK (kdK B b) N) (hf : nfX B b N) (h1 : x.1 2 1 = nI (cNk (kdK B b) 21 N)) (hl : lkX B b N N x) (ho : ∀ i, bt (x.1 2 2) i = true → i < cNk (kdK B b) 20 N) (h5 : x.1 2 5 = x.1 2 2) (h6 : ∀ l, bt (x.1 2 6) l = true → l < cNk (kdK B b) 21 N ∧ ∀ a c, a < 8 → c < 8 → sE (sgX x) l a c → bt (x.1 2 5) a = true) : sW (sgX x) (cNk (kdK B b) 20 N) := by
  have p8 := h.2.2.2.2.1
  have m16 := h.2.2.2.2.2.1
  have hm := sgX_m h1 m16
  have lk : ∀ l, l < cNk (kdK B b) 21 N → sgX x (8 + l) = nI (ixT B b N (nTk (kdK B b) 21 N l + 1)) ∧ sgX x (24 + l) = nI (ixT B b N (nTk (kdK B b) 21 N l + 2)) ∧ sgX x (40 + l) = nI (Vd B b (nTk (kdK B b) 21 N l + 3)) := fun l hl' => by
    obtain ⟨a1, a2, a3, a4⟩ := sgX_l (x := x) (show l < 16 by omega)
    obtain ⟨c1, c2, c3, c4⟩ := lkX_at hl hl'
    exact ⟨a1.trans c1, a2.trans c2, a3.trans c3⟩
  have nf : ∀ l, l < cNk (kdK B b) 21 N → nTk (kdK B b) 21 N l < N ∧ kdK B b (nTk (kdK B b) 21 N l) = 21 := fun l hl' => by
    obtain ⟨q1, q2, q3⟩ := nTk_ok (K := kdK B b) (q := 21) N l hl'
    exact ⟨q1, q2⟩
  have same : ∀ l k a c, l < cNk (kdK B b) 21 N → k < cNk (kdK B b) 21 N → a < 8 → c < 8 → sE (sgX x) l a c → sE (sgX x) k a c → ¬ nTk (kdK B b) 21 N l < nTk (kdK B b) 21 N k := fun l k a c hl' hk' ha hc e1 e2 lt => by
    obtain ⟨l1, l2⟩ := nf l hl'
    obtain ⟨k1, k2⟩ := nf k hk'
    obtain ⟨u1, u2, u3, u4, u5⟩ := nf_21 hf l1 l2
    obtain ⟨v1, v2, v3, v4, v5⟩ := nf_21 hf k1 k2
    have a1 := ix_8 h u1
    have a2 := ix_8 h u2
    have a3 := ix_8 h v1
    have a4 := ix_8 h v2
    refine v4 ((lkB_iff _).mpr ⟨_, lt, l2, (tw_iff u1 u2 v1 v2).mp ?_⟩)
    have f1 := (sE_iff (σ := sgX x) (l := l) a1 a2 ha hc (lk l hl').1 (lk l hl').2.1).mp e1
    have f2 := (sE_iff (σ := sgX x) (l := k) a3 a4 ha hc (lk k hk').1 (lk k hk').2.1).mp e2
    unfold twX
    omega
  unfold sW
  rw [hm]
  refine ⟨p8, h1, m16, ho, by rw [sgX_c.2.2.1, h5]; exact ho, h6, fun l hl' => ?_, fun l k a c hl' hk' ha hc e1 e2 => ?_, fun l hl' => ?_⟩
  · obtain ⟨l1, l2⟩ := nf l hl'
    obtain ⟨u1, u2, u3, u4⟩ := nf_21 hf l1 l2
    exact ⟨_, _, nf_np hf u1, nf_np hf u2, fun z => u3 ((ix_inj u1 u2).mp z), (lk l hl').1, (lk l hl').2.1⟩
  · have s1 := same l k a c hl' hk' ha hc e1 e2
    have s2 := same k l a c hk' hl' ha hc e2 e1
    obtain ⟨q1, q2, q3⟩ := nTk_ok (K := kdK B b) (q := 21) N l hl'
    obtain ⟨r1, r2, r3⟩ := nTk_ok (K := kdK B b) (q := 21) N k hk'
    rw [← q3, ← r3, show nTk (kdK B b) 21 N l = nTk (kdK B b) 21 N k by omega]
  · obtain ⟨l1, l2⟩ := nf l hl'
    obtain ⟨u1, u2, u3, u4, u5, u6⟩ := nf_21 hf l1 l2
    exact ⟨_, u5, u6, (lk l hl').2.2⟩
theorem low_p : ∀ p, p < 9 → ∀ i, i < 32 → bt (((1 : Int32) <<< (nI p &&& 31)) - 1) i = decide (i < p) := by decide +kernel
theorem finish_L (h1 : x.1 2 1 = nI m) (m16 : m ≤ 16) (he : ∀ l, l < m → ∃ a c, a < 8 ∧ c < 8 ∧ x.1 3 l = nI a ∧ x.1 4 l = nI c) (kk : mX → Option mX) : ∃ x', f_X5_finish_L27 mF 0 x kk = kk x' ∧ xF (fun q c => q = 2 ∧ c = 3) x x' ∧ ∀ l, bt (x'.1 2 3) l = true ↔ bt (x.1 2 3) l = true ∧ ¬ (l < m ∧ ∀ a c, a < 8 → c < 8 → x.1 3 l = nI a → x.1 4 l = nI c → bt (x.1 13 a) c = true) := by
  refine lp_up 16 (fun n a (s : mX) => f_X5_finish_L27 n a s kk) (fun j s => xF (fun q c => q = 2 ∧ c = 3) x s ∧ ∀ l, bt (s.1 2 3) l = true ↔ bt (x.1 2 3) l = true ∧ ¬ (l < j ∧ l < m ∧ ∀ a c, a < 8 → c < 8 → x.1 3 l = nI a → x.1 4 l = nI c → bt (x.1 13 a) c = true)) (fun o => ∃ x', o = kk x' ∧ xF (fun q c => q = 2 ∧ c = 3) x x' ∧ ∀ l, bt (x'.1 2 3) l = true ↔ bt (x.1 2 3) l = true ∧ ¬ (l < m ∧ ∀ a c, a < 8 → c < 8 → x.1 3 l = nI a → x.1 4 l = nI c → bt (x.1 13 a) c = true)) ?_ ?_ mF 0 x (by decide) (by decide) ⟨xF_rf _ _, fun l => ⟨fun z => ⟨z, fun u => absurd u.1 (Nat.not_lt_zero _)⟩, fun z => z.1⟩⟩
  · rintro n s ⟨g1, g2⟩
    show ∃ x', f_X5_finish_L27 (n + 1) (nI 16) s kk = _ ∧ _
    rw [f_X5_finish_L27, if_pos (by decide)]
    refine ⟨s, rfl, g1, fun l => (g2 l).trans ⟨fun z => ⟨z.1, fun u => z.2 ⟨by omega, u⟩⟩, fun z => ⟨z.1, fun u => z.2 u.2⟩⟩⟩
  · rintro n j s hj ⟨g1, g2⟩ ih
    show ∃ x', f_X5_finish_L27 (n + 1) (nI j) s kk = _ ∧ _
    have r3 : s.1 3 = x.1 3 := xF_row g1 (fun c => by omega)
    have r4 : s.1 4 = x.1 4 := xF_row g1 (fun c => by omega)
    have r13 : s.1 13 = x.1 13 := xF_row g1 (fun c => by omega)
    rw [f_X5_finish_L27, if_neg (k16f hj), g1.1 2 1 (by omega), h1, nI_1]
    have skip : ¬ (j < m ∧ ∀ a c, a < 8 → c < 8 → x.1 3 j = nI a → x.1 4 j = nI c → bt (x.1 13 a) c = true) → ∃ x', f_X5_finish_L27 n (nI (j + 1)) s kk = kk x' ∧ xF (fun q c => q = 2 ∧ c = 3) x x' ∧ ∀ l, bt (x'.1 2 3) l = true ↔ bt (x.1 2 3) l = true ∧ ¬ (l < m ∧ ∀ a c, a < 8 → c < 8 → x.1 3 l = nI a → x.1 4 l = nI c → bt (x.1 13 a) c = true) := fun hno => by
      refine ih s ⟨g1, fun l => (g2 l).trans ⟨fun z => ⟨z.1, fun u => ?_⟩, fun z => ⟨z.1, fun u => z.2 ⟨by omega, u.2⟩⟩⟩⟩
      by_cases el : l = j
      · subst el
        exact hno u.2
      · exact z.2 ⟨by omega, u.2⟩
    by_cases cm : m ≤ j
    · rw [if_pos (nI_le cm (by omega))]
      exact skip (fun z => by omega)
    · obtain ⟨a, c, a8, c8, e3, e4⟩ := he j (by omega)
      rw [if_neg (nI_ge (by omega) (by omega)), if_pos (in_ok hj (by decide)), cl (by omega), r3, r4, r13, e3, e4, if_pos (in_ok a8 (by decide)), if_pos (in_ok hj (by decide)), cl (by omega)]
      by_cases d : bt (x.1 13 a) c = true
      · rw [if_neg (h10t (by omega) d), m_let]
        refine ih _ ⟨xF_set g1 ⟨rfl, rfl⟩, fun l => ?_⟩
        rw [xs_eq, b_wo (by omega), Bool.and_eq_true, g2 l]
        by_cases el : l = j
        · subst el
          rw [decide_eq_true (show l = l from rfl)]
          refine ⟨fun z => absurd z.2 (by decide), fun z => absurd ⟨by omega, by omega, fun a' c' ha hc q1 q2 => ?_⟩ z.2⟩
          rw [e3] at q1
          rw [e4] at q2
          rw [← (nI_eq (by omega) (by omega)).mp q1, ← (nI_eq (by omega) (by omega)).mp q2]
          exact d
        · rw [decide_eq_false el]
          exact ⟨fun z => ⟨z.1.1, fun u => z.1.2 ⟨by omega, u.2⟩⟩, fun z => ⟨⟨z.1, fun u => z.2 ⟨by omega, u.2⟩⟩, rfl⟩⟩
      · rw [if_pos (h10f (by omega) d)]
        exact skip (fun z => d (z.2 a c a8 c8 e3 e4))
/-- the class's draft at the end -/
def fnX (B : Nat → Nat) (b N : Nat) (x : mX) : Prop := (∀ i, bt (x.1 2 2) i = true ↔ i < cNk (kdK B b) 20 N ∧ ¬ ofK (kdK B b) (ixT B b N) N i) ∧ (∀ l, bt (x.1 2 3) l = true ↔ l < cNk (kdK B b) 21 N ∧ ¬ dnK B b N l) ∧ x.1 2 5 = x.1 2 2 ∧ sL (sgX x) (x.1 2 6) ∧ (∀ c, 7 ≤ c → c < 10 → x.1 2 c = 0) ∧ lkX B b N N x ∧ x.1 2 1 = nI (cNk (kdK B b) 21 N) ∧ sW (sgX x) (cNk (kdK B b) 20 N) ∧ sR x.1 2 (sgX x) (cNk (kdK B b) 20 N) (rtK (kdK B b) (ixT B b N) N)
theorem dn_iff (h : txK (kdK B b) N) (hf : nfX B b N) (hr : rwX B b N 24 N 13 x) {l : Nat} (hl : l < cNk (kdK B b) 21 N) : bt (x.1 13 (ixT B b N (nTk (kdK B b) 21 N l + 1))) (ixT B b N (nTk (kdK B b) 21 N l + 2)) = true ↔ dnK B b N l := by
  obtain ⟨q1, q2, q3⟩ := nTk_ok (K := kdK B b) (q := 21) N l hl
  obtain ⟨u1, u2, u3, u4⟩ := nf_21 hf q1 q2
  rw [hr _ (ix_8 h u1)]
  constructor
  · rintro ⟨i, i1, i2, i3, i4, i5, i6⟩
    exact ⟨i, i1, i2, (tw_iff i3 i4 u1 u2).mp i6⟩
  · rintro ⟨i, i1, i2, i3⟩
    obtain ⟨v1, v2, v3⟩ := kn_no (Or.inr i2) (hf i i1)
    exact ⟨i, i1, i2, v1, v2, v3, (tw_iff v1 v2 u1 u2).mpr i3⟩
theorem finish_x (h : txK (kdK B b) N) (hf : nfX B b N) (hd : drX B b N N x) : ∃ x', f_X5_finish x = some x' ∧ xF (fun q _ => q = 2) x x' ∧ fnX B b N x' := by
  obtain ⟨d1, d2, d3, d4, d5, d6, d7, d8⟩ := hd
  have p8 := h.2.2.2.2.1
  have m16 := h.2.2.2.2.2.1
  unfold f_X5_finish
  rw [m_let, d1]
  obtain ⟨x1, hx1⟩ : ∃ x1, m_xs x 2 2 ((((1 : Int32) <<< (nI (cNk (kdK B b) 20 N) &&& 31)) - (1 : Int32)) &&& ((x.1 1 16) ^^^ (-1 : Int32))) = x1 := ⟨_, rfl⟩
  rw [hx1]
  have r1 : ∀ q, q ≠ 2 → x1.1 q = x.1 q := fun q hq => by rw [← hx1, xs_ne hq]
  have c1 : ∀ c, c ≠ 2 → x1.1 2 c = x.1 2 c := fun c hc => by rw [← hx1, xs_ec hc]
  have lk1 : lkX B b N N x1 := lkX_c d6 (r1 3 (by decide)) (r1 4 (by decide)) (r1 5 (by decide)) (r1 6 (by decide))
  have ends : ∀ l, l < cNk (kdK B b) 21 N → ixT B b N (nTk (kdK B b) 21 N l + 1) < 8 ∧ ixT B b N (nTk (kdK B b) 21 N l + 2) < 8 := fun l hl => by
    obtain ⟨q1, q2, q3⟩ := nTk_ok (K := kdK B b) (q := 21) N l hl
    obtain ⟨u1, u2, u3, u4⟩ := nf_21 hf q1 q2
    exact ⟨ix_8 h u1, ix_8 h u2⟩
  obtain ⟨x3, e3, f3, b3⟩ := finish_L (x := x1) (m := cNk (kdK B b) 21 N) (by rw [c1 1 (by decide)]; exact d2) m16 (fun l hl => ⟨_, _, (ends l hl).1, (ends l hl).2, (lkX_at lk1 hl).1, (lkX_at lk1 hl).2.1⟩) (fun x3 => (m_let (m_xs x3 2 5 (x3.1 2 2)) fun x4 => ((f_X6_live 2 x4).bind fun q5 => (m_let (m_xs x4 2 6 q5) fun x6 => (some x6)))))
  rw [e3, m_let]
  obtain ⟨x4, hx4⟩ : ∃ x4, m_xs x3 2 5 (x3.1 2 2) = x4 := ⟨_, rfl⟩
  rw [hx4]
  have r4 : ∀ q, q ≠ 2 → x4.1 q = x.1 q := fun q hq => by rw [← hx4, xs_ne hq, xF_row f3 (fun c => by omega), r1 q hq]
  have c4 : ∀ c, c ≠ 2 → c ≠ 3 → c ≠ 5 → x4.1 2 c = x.1 2 c := fun c h2 h3 h5 => by rw [← hx4, xs_ec h5, f3.1 2 c (by omega), c1 c h2]
  have on4 : x4.1 2 2 = x1.1 2 2 := by rw [← hx4, xs_ec (by decide), f3.1 2 2 (by omega)]
  have on5 : x4.1 2 5 = x4.1 2 2 := by rw [on4, ← hx4, xs_eq, f3.1 2 2 (by omega)]
  have on : ∀ i, bt (x4.1 2 2) i = true ↔ i < cNk (kdK B b) 20 N ∧ ¬ ofK (kdK B b) (ixT B b N) N i := fun i => by
    rw [on4, ← hx1, xs_eq]
    by_cases i32 : i < 32
    · rw [b_wos, Bool.and_eq_true, low_p _ (by omega) i i32, decide_eq_true_eq, Bool.not_eq_true', ← d7 i]
      rw [Bool.not_eq_true]
    · rw [b_big (by omega)]
      exact ⟨fun z => (by cases z), fun z => by omega⟩
  have up : ∀ l, bt (x4.1 2 3) l = true ↔ l < cNk (kdK B b) 21 N ∧ ¬ dnK B b N l := fun l => by
    rw [← hx4, xs_ec (by decide), b3 l, c1 3 (by decide), d3 l]
    refine ⟨fun z => ⟨z.1, fun u => z.2 ⟨z.1, fun a c ha hc q1 q2 => ?_⟩⟩, fun z => ⟨z.1, fun u => z.2 ?_⟩⟩
    · have v := (dn_iff h hf d8 z.1).mpr u
      have en := ends l z.1
      rw [(lkX_at lk1 z.1).1] at q1
      rw [(lkX_at lk1 z.1).2.1] at q2
      rw [r1 13 (by decide), ← (nI_eq (by omega) (by omega)).mp q1, ← (nI_eq (by omega) (by omega)).mp q2]
      exact v
    · have v := u.2 _ _ (ends l z.1).1 (ends l z.1).2 (lkX_at lk1 z.1).1 (lkX_at lk1 z.1).2.1
      rw [r1 13 (by decide)] at v
      exact (dn_iff h hf d8 z.1).mp v
  have lk4 : lkX B b N N x4 := lkX_c d6 (r4 3 (by decide)) (r4 4 (by decide)) (r4 5 (by decide)) (r4 6 (by decide))
  have h41 : x4.1 2 1 = nI (cNk (kdK B b) 21 N) := by rw [c4 1 (by decide) (by decide) (by decide)]; exact d2
  have z46 : x4.1 2 6 = 0 := by rw [c4 6 (by decide) (by decide) (by decide)]; exact d5 6 (by decide) (by decide)
  have w4 : sW (sgX x4) (cNk (kdK B b) 20 N) := sW_x h hf h41 lk4 (fun i hi => ((on i).mp hi).1) on5 (fun l hl => by rw [z46, b_0] at hl; cases hl)
  have s4 : sR x4.1 2 (sgX x4) (cNk (kdK B b) 20 N) (rtK (kdK B b) (ixT B b N) N) := sR_x (by rw [c4 0 (by decide) (by decide) (by decide)]; exact d1) h41 m16 (by rw [c4 4 (by decide) (by decide) (by decide)]; exact d4)
  obtain ⟨V, v1, v2⟩ := live_ok x4 s4 w4
  rw [v1, Option.bind_some, m_let]
  have smx := sgX_m h41 m16
  obtain ⟨x6, hx6⟩ : ∃ x6, m_xs x4 2 6 V = x6 := ⟨_, rfl⟩
  rw [hx6]
  have r6 : ∀ q, q ≠ 2 → x6.1 q = x4.1 q := fun q hq => by rw [← hx6, xs_ne hq]
  have c6 : ∀ c, c ≠ 6 → x6.1 2 c = x4.1 2 c := fun c hc => by rw [← hx6, xs_ec hc]
  have e6 : x6.1 2 6 = V := by rw [← hx6, xs_eq]
  have lk6 : lkX B b N N x6 := lkX_c lk4 (r6 3 (by decide)) (r6 4 (by decide)) (r6 5 (by decide)) (r6 6 (by decide))
  have h61 : x6.1 2 1 = nI (cNk (kdK B b) 21 N) := by rw [c6 1 (by decide)]; exact h41
  have sme : ∀ l, l < sm (sgX x4) → sgX x6 (8 + l) = sgX x4 (8 + l) ∧ sgX x6 (24 + l) = sgX x4 (24 + l) := fun l hl => by
    rw [smx] at hl
    obtain ⟨a1, a2, _⟩ := sgX_l (x := x4) (show l < 16 by omega)
    obtain ⟨g1, g2, _⟩ := sgX_l (x := x6) (show l < 16 by omega)
    rw [a1, a2, g1, g2, r6 3 (by decide), r6 4 (by decide)]
    exact ⟨rfl, rfl⟩
  have v6 : sL (sgX x6) V := sL_sg (σ := sgX x4) (c6 2 (by decide)) (c6 3 (by decide)) (c6 1 (by decide)) sme v2
  have on5' : x6.1 2 5 = x6.1 2 2 := by rw [c6 5 (by decide), c6 2 (by decide), on5]
  have sm6 := sgX_m h61 m16
  refine ⟨x6, rfl, ?_, fun i => by rw [c6 2 (by decide)]; exact on i, fun l => by rw [c6 3 (by decide)]; exact up l, on5', by rw [e6]; exact v6, fun c h1 h2 => ?_, lk6, h61, sW_x h hf h61 lk6 (fun i hi => by rw [c6 2 (by decide)] at hi; exact ((on i).mp hi).1) on5' (fun l hl => ?_), sR_x ?_ h61 m16 ?_⟩
  · rw [← hx6, ← hx4]
    have fa : xF (fun q _ => q = 2) x x1 := by rw [← hx1]; exact xF_set (xF_rf _ _) rfl
    exact xF_set (xF_set (xF_tr fa (xF_mo f3 (fun q c hq => hq.1))) rfl) rfl
  · rw [c6 c (by omega), c4 c (by omega) (by omega) (by omega)]
    exact d5 c (by omega) h2
  · rw [e6] at hl
    have u := (v6 l).mp hl
    rw [sm6] at u
    refine ⟨u.1, fun a c ha hc e => ?_⟩
    rw [on5']
    exact u.2.2 a c ha hc e
  · rw [c6 0 (by decide), c4 0 (by decide) (by decide) (by decide)]; exact d1
  · rw [c6 4 (by decide), c4 4 (by decide) (by decide) (by decide)]; exact d4
end TQ
