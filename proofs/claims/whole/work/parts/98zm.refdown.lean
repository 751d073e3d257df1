/-! ===== the text: the reference's links told down; its meaning ===== -/
section TU
variable {B : Nat → Nat} {b N k t t' c m : Nat} {y y' y0 y1 : mY} {R : Nat × Nat}
def eqE (y : mY) (l : Nat) (P Q : Int32) : Prop := (y.1 288 (8 + l) = P ∧ y.1 288 (24 + l) = Q) ∨ (y.1 288 (8 + l) = Q ∧ y.1 288 (24 + l) = P)
def upW (q c : Nat) : Prop := q = 288 ∧ c = 1
theorem eqE_F {l : Nat} {P Q : Int32} (f : yF upW y y1) : eqE y1 l P Q ↔ eqE y l P Q := by
  unfold eqE
  rw [f.1 288 (8 + l) (by unfold upW; omega), f.1 288 (24 + l) (by unfold upW; omega)]
theorem down_L (h4 : y.1 288 4 = nI m) (m16 : m ≤ 16) (P Q : Int32) (kk : mY → Option mY) : ∃ y', f_X11_meansDown_L43 P Q mF 0 y kk = kk y' ∧ yF upW y y' ∧ ∀ l, bt (y'.1 288 1) l = true ↔ bt (y.1 288 1) l = true ∧ ¬ (l < m ∧ eqE y l P Q) := by
  refine lp_up m (fun n a (s : mY) => f_X11_meansDown_L43 P Q n a s kk) (fun j s => yF upW y s ∧ ∀ l, bt (s.1 288 1) l = true ↔ bt (y.1 288 1) l = true ∧ ¬ (l < j ∧ eqE y l P Q)) (fun o => ∃ y', o = kk y' ∧ yF upW y y' ∧ ∀ l, bt (y'.1 288 1) l = true ↔ bt (y.1 288 1) l = true ∧ ¬ (l < m ∧ eqE y l P Q)) ?_ ?_ mF 0 y (Nat.lt_of_le_of_lt m16 (by decide)) (Nat.zero_le _) ⟨yF_rf _ _, fun l => ⟨fun z => ⟨z, fun u => absurd u.1 (Nat.not_lt_zero _)⟩, fun z => z.1⟩⟩
  · rintro n s ⟨f, hI⟩
    show ∃ y', f_X11_meansDown_L43 P Q (n + 1) (nI m) s kk = _ ∧ _
    rw [f_X11_meansDown_L43, f.1 288 4 (by unfold upW; omega), h4, if_pos (nI_le (Nat.le_refl _) (by omega))]
    exact ⟨s, rfl, f, hI⟩
  · rintro n j s hj ⟨f, hI⟩ ih
    show ∃ y', f_X11_meansDown_L43 P Q (n + 1) (nI j) s kk = _ ∧ _
    have e8 : s.1 288 (8 + j) = y.1 288 (8 + j) := f.1 _ _ (by unfold upW; omega)
    have e24 : s.1 288 (24 + j) = y.1 288 (24 + j) := f.1 _ _ (by unfold upW; omega)
    rw [f_X11_meansDown_L43, f.1 288 4 (by unfold upW; omega), h4, if_neg (nI_ge hj (by omega)), a8, a24, if_pos (in_ok (by omega) (by decide)), m_jn, cl (by omega), cl (by omega), e8, e24, nI_1]
    dsimp only
    have skip : ¬ eqE y j P Q → ∃ y', f_X11_meansDown_L43 P Q n (nI (j + 1)) s kk = kk y' ∧ yF upW y y' ∧ ∀ l, bt (y'.1 288 1) l = true ↔ bt (y.1 288 1) l = true ∧ ¬ (l < m ∧ eqE y l P Q) := fun hno => by
      refine ih s ⟨f, fun l => (hI l).trans ⟨fun z => ⟨z.1, fun u => ?_⟩, fun z => ⟨z.1, fun u => z.2 ⟨by omega, u.2⟩⟩⟩⟩
      by_cases el : l = j
      · subst el
        exact hno u.2
      · exact z.2 ⟨by omega, u.2⟩
    have drop : eqE y j P Q → ∃ y', (m_let (m_ys s 288 1 ((s.1 288 1) &&& (((1 : Int32) <<< (nI j &&& 31)) ^^^ (-1 : Int32)))) fun y4 => (f_X11_meansDown_L43 P Q n (nI (j + 1)) y4 kk)) = kk y' ∧ yF upW y y' ∧ ∀ l, bt (y'.1 288 1) l = true ↔ bt (y.1 288 1) l = true ∧ ¬ (l < m ∧ eqE y l P Q) := fun hy => by
      rw [m_let]
      refine ih _ ⟨yF_set f ⟨rfl, rfl⟩, fun l => ?_⟩
      rw [ys_eq, b_wo (by omega), Bool.and_eq_true, hI l]
      by_cases el : l = j
      · subst el
        rw [decide_eq_true (show l = l from rfl)]
        exact ⟨fun z => absurd z.2 (by decide), fun z => absurd ⟨by omega, hy⟩ z.2⟩
      · rw [decide_eq_false el]
        exact ⟨fun z => ⟨z.1.1, fun u => z.1.2 ⟨by omega, u.2⟩⟩, fun z => ⟨⟨z.1, fun u => z.2 ⟨by omega, u.2⟩⟩, rfl⟩⟩
    have second : ¬ (y.1 288 (8 + j) = P ∧ y.1 288 (24 + j) = Q) → ∃ y', (if m_in (nI (8 + j)) 72 = true then (if y.1 288 (8 + j) = Q then (if m_in (nI (24 + j)) 72 = true then (if y.1 288 (24 + j) = P then (m_let (m_ys s 288 1 ((s.1 288 1) &&& (((1 : Int32) <<< (nI j &&& 31)) ^^^ (-1 : Int32)))) fun y4 => (f_X11_meansDown_L43 P Q n (nI (j + 1)) y4 kk)) else (f_X11_meansDown_L43 P Q n (nI (j + 1)) s kk)) else none) else (f_X11_meansDown_L43 P Q n (nI (j + 1)) s kk)) else none) = kk y' ∧ yF upW y y' ∧ ∀ l, bt (y'.1 288 1) l = true ↔ bt (y.1 288 1) l = true ∧ ¬ (l < m ∧ eqE y l P Q) := fun nf => by
      rw [if_pos (in_ok (by omega) (by decide))]
      by_cases d1 : y.1 288 (8 + j) = Q
      · rw [if_pos d1, if_pos (in_ok (by omega) (by decide))]
        by_cases d2 : y.1 288 (24 + j) = P
        · rw [if_pos d2]
          exact drop (Or.inr ⟨d1, d2⟩)
        · rw [if_neg d2]
          exact skip (fun z => z.elim nf (fun u => d2 u.2))
      · rw [if_neg d1]
        exact skip (fun z => z.elim nf (fun u => d1 u.1))
    by_cases d1 : y.1 288 (8 + j) = P
    · rw [if_pos d1, if_pos (in_ok (by omega) (by decide))]
      by_cases d2 : y.1 288 (24 + j) = Q
      · rw [if_pos d2]
        exact drop (Or.inl ⟨d1, d2⟩)
      · rw [if_neg d2]
        have t := second (fun z => d2 z.2)
        rw [if_pos (in_ok (by omega) (by decide))] at t
        rw [if_pos (in_ok (by omega) (by decide))]
        exact t
    · rw [if_neg d1]
      exact second (fun z => d1 z.1)
theorem up_mn {q c : Nat} (h : upW q c) : mnW q c := Or.inr h.1
theorem downs_y (hG : ymG B b N y) (h4 : y.1 288 4 = nI m) (m16 : m ≤ 16) : ∃ y', f_X11_meansDown y = some y' ∧ yF upW y y' ∧ ∀ l, bt (y'.1 288 1) l = true ↔ bt (y.1 288 1) l = true ∧ ¬ (l < m ∧ ∃ j, j < N + 1 ∧ kdK B b j = 24 ∧ eqE y l (cdY B b N (j + 1)) (cdY B b N (j + 2))) := by
  have g1 := hG.1
  have n4 := g1.1
  unfold f_X11_meansDown
  refine lp_ok (N + 1) (fun n a (s : mY) => f_X11_meansDown_L2 n a s) (fun k s => yF upW y s ∧ ∀ l, bt (s.1 288 1) l = true ↔ bt (y.1 288 1) l = true ∧ ¬ (l < m ∧ ∃ j, j < k ∧ kdK B b j = 24 ∧ eqE y l (cdY B b N (j + 1)) (cdY B b N (j + 2)))) ?_ ?_ mF 0 y (Nat.lt_of_le_of_lt (show N + 1 ≤ 401 by omega) (by decide)) (Nat.zero_le _) ⟨yF_rf _ _, fun l => ⟨fun z => ⟨z, fun ⟨_, j, j1, _⟩ => absurd j1 (Nat.not_lt_zero _)⟩, fun z => z.1⟩⟩
  · rintro n s ⟨f, hI⟩
    show ∃ y', f_X11_meansDown_L2 (n + 1) (nI (N + 1)) s = _ ∧ _
    have hGs := ymG_F hG (yF_mo f (fun q c hq => up_mn hq))
    rw [f_X11_meansDown_L2, hGs.2.2.2.2.1, if_pos (nI_le (Nat.le_refl _) (by omega))]
    exact ⟨s, rfl, f, hI⟩
  · rintro n j s hj ⟨f, hI⟩ ih
    show ∃ y', f_X11_meansDown_L2 (n + 1) (nI j) s = _ ∧ _
    have hGs := ymG_F hG (yF_mo f (fun q c hq => up_mn hq))
    have kb := kdK_b (B := B) (b := b) j
    rw [f_X11_meansDown_L2, hGs.2.2.2.2.1, if_neg (nI_ge hj (by omega)), if_pos (in_ok (by omega) (by decide)), cl (by omega), (hGs.2.2.2.1 j hj).1, nI_1]
    by_cases c : kdK B b j = 24
    · have jN : j < N := Classical.byContradiction fun z => by
        rw [show j = N by omega, g1.2.2.2.2.2.2] at c
        cases c
      have t1 := g1.2.2.2.1 j jN c
      rw [if_pos (show nI (kdK B b j) = (24 : Int32) by rw [c]; rfl), named_t hGs (by omega) t1.1, Option.bind_some, show nI j + (2 : Int32) = nI (j + 2) from nI_add j 2, named_t hGs t1.2.2 t1.2.1, Option.bind_some]
      obtain ⟨s1, e1, f1, b1⟩ := down_L (y := s) (m := m) (by rw [f.1 288 4 (by unfold upW; omega)]; exact h4) m16 (cdY B b N (j + 1)) (cdY B b N (j + 2)) (fun y6 => (f_X11_meansDown_L2 n (nI (j + 1)) y6))
      rw [e1]
      refine ih s1 ⟨yF_tr f f1, fun l => ?_⟩
      rw [b1 l, hI l, eqE_F f, ex_s (P := fun i => kdK B b i = 24 ∧ eqE y l (cdY B b N (i + 1)) (cdY B b N (i + 2)))]
      constructor
      · rintro ⟨⟨a1, a2⟩, a3⟩
        exact ⟨a1, fun ⟨u1, u2⟩ => u2.elim (fun v => a2 ⟨u1, v⟩) (fun v => a3 ⟨u1, v.2⟩)⟩
      · rintro ⟨a1, a2⟩
        exact ⟨⟨a1, fun ⟨u1, u2⟩ => a2 ⟨u1, Or.inl u2⟩⟩, fun ⟨u1, u2⟩ => a2 ⟨u1, Or.inr ⟨c, u2⟩⟩⟩
    · rw [if_neg (show ¬ nI (kdK B b j) = (24 : Int32) from fun z => c ((nI_eq (b := 24) (by omega) (by decide)).mp z))]
      refine ih s ⟨f, fun l => ?_⟩
      rw [hI l, ex_n (P := fun i => kdK B b i = 24 ∧ eqE y l (cdY B b N (i + 1)) (cdY B b N (i + 2))) (fun z => c z.1)]
/-- the reference's state at the end -/
def enY (B : Nat → Nat) (b N : Nat) (y : mY) : Prop := (∀ i, bt (y.1 288 0) i = true ↔ i < cNk (kdK B b) 20 N ∧ ¬ ofK (kdK B b) (iyT B b N) N i) ∧ (∀ l, bt (y.1 288 1) l = true ↔ l < cNk (kdK B b) 21 N ∧ ¬ dnK B b N l) ∧ y.1 279 21 = nI (rtK (kdK B b) (iyT B b N) N) ∧ (∀ c, c = 2 ∨ c = 3 ∨ c = 5 ∨ c = 6 ∨ c = 7 → y.1 288 c = 0) ∧ y.1 288 4 = nI (cNk (kdK B b) 21 N) ∧ lkY B b N N y ∧ ∀ l, l < 16 → y.1 288 (56 + l) = 0
theorem zero_L (kk : mY → Option mY) (y : mY) : ∃ y', f_X11_means_L2 mF 0 y kk = kk y' ∧ yF (fun q _ => q = 288) y y' ∧ ∀ c, c < 72 → y'.1 288 c = 0 := by
  refine lp_up 72 (fun n a (s : mY) => f_X11_means_L2 n a s kk) (fun j s => yF (fun q _ => q = 288) y s ∧ ∀ c, c < j → s.1 288 c = 0) (fun o => ∃ y', o = kk y' ∧ yF (fun q _ => q = 288) y y' ∧ ∀ c, c < 72 → y'.1 288 c = 0) ?_ ?_ mF 0 y (by decide) (by decide) ⟨yF_rf _ _, fun c hc => absurd hc (Nat.not_lt_zero _)⟩
  · rintro n s ⟨f, hI⟩
    show ∃ y', f_X11_means_L2 (n + 1) (nI 72) s kk = _ ∧ _
    rw [f_X11_means_L2, if_pos (by decide)]
    exact ⟨s, rfl, f, hI⟩
  · rintro n j s hj ⟨f, hI⟩ ih
    show ∃ y', f_X11_means_L2 (n + 1) (nI j) s kk = _ ∧ _
    rw [f_X11_means_L2, if_neg (show ¬ (72 : Int32) ≤ nI j from nI_ge (b := 72) hj (by decide)), if_pos (in_ok hj (by decide)), m_let, cl (by omega), nI_1]
    refine ih _ ⟨yF_set f rfl, fun c hc => ?_⟩
    by_cases e : c = j
    · subst e
      rw [ys_eq]
    · rw [ys_ec e]
      exact hI c (by omega)
theorem means_y (hG : ymG B b N y) (h14 : y.1 279 14 = 0) : ∃ y', f_X11_means y = some y' ∧ yF mnW y y' ∧ stW B b (ffF (lfT B b N) N) y' ∧ ((ffF (lfT B b N) N).1 = 0 → enY B b N y') := by
  have g1 := hG.1
  have p8 : cNk (kdK B b) 20 N ≤ 8 := g1.2.2.2.2.1
  have m16 := g1.2.2.2.2.2.1
  have h19 : y.1 279 19 = nI (cNk (kdK B b) 20 N) := hG.2.2.2.2.2.2.1
  unfold f_X11_means
  obtain ⟨y2, e2, f2, z2⟩ := zero_L (fun y2 => (m_let (m_ys y2 288 0 (((1 : Int32) <<< ((y2.1 279 19) &&& 31)) - (1 : Int32))) fun y3 => (m_let (m_ys y3 279 21 (0 : Int32)) fun y4 => (f_X11_means_L44 mF (0 : Int32) (0 : Int32) y4)))) y
  rw [e2, m_let, m_let, f2.1 279 19 (by omega), h19]
  obtain ⟨y4, hy4⟩ : ∃ y4, m_ys (m_ys y2 288 0 (((1 : Int32) <<< (nI (cNk (kdK B b) 20 N) &&& 31)) - (1 : Int32))) 279 21 (0 : Int32) = y4 := ⟨_, rfl⟩
  rw [hy4]
  have r4 : ∀ c, c ≠ 0 → y4.1 288 c = y2.1 288 c := fun c hc => by rw [← hy4, ys_ne (by decide), ys_ec hc]
  have f4 : yF mnW y y4 := by
    rw [← hy4]
    exact yF_set (yF_set (yF_mo f2 (fun q c hq => Or.inr hq)) (Or.inr rfl)) (Or.inl ⟨rfl, by omega⟩)
  have i0 : mnI B b N y 0 y4 := by
    refine ⟨f4, ⟨?_, show 0 < 6 by decide, fun z => absurd rfl z⟩, ?_, fun _ => ⟨fun i => ?_, fun l => ?_, ?_, fun c hc => ?_, fun j hj => absurd hj (Nat.not_lt_zero _), fun l hl => ?_⟩⟩
    · rw [← hy4, ys_ec (by decide), ys_ne (by decide), f2.1 279 14 (by omega), h14]
      rfl
    · rw [r4 4 (by decide), z2 4 (by decide)]
      rfl
    · rw [← hy4, ys_ne (by decide), ys_eq]
      have no : ¬ ofK (kdK B b) (iyT B b N) 0 i := fun ⟨j, j1, _⟩ => absurd j1 (Nat.not_lt_zero _)
      by_cases i32 : i < 32
      · rw [low_p _ (by omega) i i32, decide_eq_true_eq]
        exact ⟨fun z => ⟨z, no⟩, fun z => z.1⟩
      · rw [b_big (by omega)]
        exact ⟨fun z => (by cases z), fun z => by omega⟩
    · rw [r4 1 (by decide), z2 1 (by decide), b_0]
      exact ⟨fun z => (by cases z), fun z => absurd z (Nat.not_lt_zero _)⟩
    · rw [← hy4, ys_eq]
      rfl
    · rw [r4 c (by omega), z2 c (by omega)]
    · rw [r4 (56 + l) (by omega), z2 (56 + l) (by omega)]
  have t := means_L hG mF 0 y4 (Nat.lt_of_le_of_lt (show N + 1 - 0 ≤ 401 by have := g1.1; omega) (by decide)) (Nat.zero_le _) i0
  obtain ⟨y5, e5, i5⟩ := t
  rw [show f_X11_means_L44 mF (0 : Int32) (0 : Int32) y4 = _ from e5]
  obtain ⟨a1, a2, a3, a4⟩ := i5
  have k0 : kdK B b N = 0 := g1.2.2.2.2.2.2
  rw [cNk_n (by omega)] at a3
  have hG5 := ymG_F hG a1
  obtain ⟨y6, e6, f6, b6⟩ := downs_y hG5 a3 m16
  rw [e6, Option.bind_some]
  have lfN : lfT B b N N = (0, 0) := lnF_0 (by omega)
  have nfN : (ffF (lfT B b N) N).1 = 0 → (ffF (lfT B b N) (N + 1)).1 = 0 := fun z => by rw [ffF_0 z, lfN]
  refine ⟨y6, rfl, yF_tr a1 (yF_mo f6 (fun q c hq => up_mn hq)), ?_, fun z => ?_⟩
  · refine stW_c (y0 := y5) ?_ (f6.1 279 14 (by unfold upW; omega)) (f6.1 279 15 (by unfold upW; omega))
    by_cases z : (ffF (lfT B b N) N).1 = 0
    · exact stW_0 a2 (nfN z) z
    · rw [ffF_1 z] at a2
      exact a2
  · obtain ⟨c1, c2, c3, c4, c5, c6⟩ := a4 (nfN z)
    have nf : nfX B b N := ffF_no z
    have o : ∀ c, c ≠ 1 → y6.1 288 c = y5.1 288 c := fun c hc => f6.1 288 c (by unfold upW; omega)
    refine ⟨fun i => ?_, fun l => ?_, ?_, fun c hc => ?_, ?_, fun j hj h21 => ?_, fun l hl => ?_⟩
    · rw [o 0 (by decide), c1 i, ofK_n (by omega)]
    · rw [b6 l, c2 l, cNk_n (by omega)]
      refine ⟨fun u => ⟨u.1, fun ⟨i, i1, i2, i3⟩ => u.2 ⟨u.1, i, by omega, i2, ?_⟩⟩, fun u => ⟨u.1, fun ⟨v1, i, i1, i2, i3⟩ => u.2 ⟨i, ?_, i2, ?_⟩⟩⟩
      · obtain ⟨q1, q2, q3⟩ := nTk_ok (K := kdK B b) (q := 21) N l u.1
        obtain ⟨v1, v2, v3, v4⟩ := nf_21 nf q1 q2
        obtain ⟨w1, w2, w3⟩ := c5 _ (show nTk (kdK B b) 21 N l < N + 1 by omega) q2
        rw [q3] at w1 w2
        unfold eqE
        rw [w1, w2]
        rcases of_decide_eq_true i3 with ⟨p1, p2⟩ | ⟨p1, p2⟩
        · exact Or.inl ⟨((cdY_eq g1 v1).mpr p1).symm, ((cdY_eq g1 v2).mpr p2).symm⟩
        · exact Or.inr ⟨((cdY_eq g1 v1).mpr p2).symm, ((cdY_eq g1 v2).mpr p1).symm⟩
      · refine Classical.byContradiction fun v => ?_
        rw [show i = N by omega, k0] at i2
        cases i2
      · obtain ⟨q1, q2, q3⟩ := nTk_ok (K := kdK B b) (q := 21) N l v1
        obtain ⟨x1, x2, x3, x4⟩ := nf_21 nf q1 q2
        obtain ⟨w1, w2, w3⟩ := c5 _ (show nTk (kdK B b) 21 N l < N + 1 by omega) q2
        rw [q3] at w1 w2
        unfold eqE at i3
        rw [w1, w2] at i3
        refine decide_eq_true ?_
        rcases i3 with ⟨p1, p2⟩ | ⟨p1, p2⟩
        · exact Or.inl ⟨(cdY_eq g1 x1).mp p1.symm, (cdY_eq g1 x2).mp p2.symm⟩
        · exact Or.inr ⟨(cdY_eq g1 x2).mp p2.symm, (cdY_eq g1 x1).mp p1.symm⟩
    · rw [f6.1 279 21 (by unfold upW; omega), c3, show rtK (kdK B b) (iyT B b N) (N + 1) = rtK (kdK B b) (iyT B b N) N from if_neg (by omega)]
    · rw [o c (by omega)]
      exact c4 c hc
    · rw [o 4 (by decide)]
      exact a3
    · rw [o _ (by omega), o _ (by omega), o _ (by omega)]
      exact c5 j (by omega) h21
    · rw [o _ (by omega)]
      exact c6 l hl
end TU
