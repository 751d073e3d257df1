/-! ===== loads (3): the reference's; load ===== -/
section SL
variable {np rt s d : Nat} {x x' : mX} {y y0 : mY} {p1 p2 p3 : Int32} {σ : Nat → Int32} {P L M dn : Int32}
def ll_W (q c : Nat) : Prop := go_W q c ∨ q = 310
theorem llk : ∀ q c, ll_W q c → skY q c := fun q c z => by
  rcases z with z | z
  · exact gok q c z
  · unfold skY scY; omega
theorem ll_289 {y y' : mY} (h : yF ll_W y y') : y'.1 289 = y.1 289 := yF_row h (fun c => by unfold ll_W go_W kn_W gw_W; omega)
/-- the reference's loads so far -/
def lly (np : Nat) (M : Int32) (y0 : mY) (k : Nat) (y : mY) : Prop := yF ll_W y0 y ∧ kq y ∧ LR (y0.1 289) M np k (y.1 310)
theorem loads_L33 {a : Nat} (ha : a < np) (hW : sW (y0.1 289) np) (h17 : y0.1 279 17 = nI np) (hM : sL (y0.1 289) M) (y : mY) (hl : lly np M y0 (8 * a) y) (kk : mY → Option mY) : ∃ y1, f_X11_laysLoads_L33 (nI a) mF 0 y kk = kk y1 ∧ lly np M y0 (8 * a + 8) y1 := by
  have n8 := hW.1
  have hN := sN_learnt hW
  have z := lp_up np (fun n b (s : mY) => f_X11_laysLoads_L33 (nI a) n b s kk) (fun d s => lly np M y0 (8 * a + d) s) (fun o => ∃ y1, o = kk y1 ∧ lly np M y0 (8 * a + 8) y1) (by
    rintro n s ⟨h1, h2, h3⟩
    show ∃ y1, f_X11_laysLoads_L33 (nI a) (n + 1) (nI np) s kk = kk y1 ∧ _
    have e17 : s.1 279 17 = nI np := by rw [h1.1 279 17 (by unfold ll_W go_W kn_W gw_W; omega)]; exact h17
    rw [f_X11_laysLoads_L33, if_pos (show s.1 279 17 ≤ nI np by rw [e17]; exact nI_le (Nat.le_refl _) (by omega))]
    have far := LR_far h3 (8 - np) (fun j h1 h2 z => by
      have := z.2.1
      omega)
    rw [show 8 * a + np + (8 - np) = 8 * a + 8 by omega] at far
    exact ⟨s, rfl, h1, h2, far⟩) (by
    rintro n d s hd ⟨h1, h2, h3⟩ ih
    show ∃ y1, f_X11_laysLoads_L33 (nI a) (n + 1) (nI d) s kk = kk y1 ∧ _
    have e1 : (8 * a + d) / 8 = a := by omega
    have e2 : (8 * a + d) % 8 = d := by omega
    have es := ll_289 h1
    have e17 : s.1 279 17 = nI np := by rw [h1.1 279 17 (by unfold ll_W go_W kn_W gw_W; omega)]; exact h17
    rw [f_X11_laysLoads_L33, if_neg (show ¬ s.1 279 17 ≤ nI d by rw [e17]; exact nI_ge hd (by omega)), nI_1]
    rcases canSend_y (y := s) (by rw [es]; exact hW) e17 (nI a) (nI d) with ⟨a', d', k, e⟩ | ⟨no, e⟩
    · have ea : a = a' := (nI_eq (by omega) (by have := k.1; omega)).mp k.2.2.1
      have ed : d = d' := (nI_eq (by omega) (by have := k.2.1; omega)).mp k.2.2.2.1
      subst ea
      subst ed
      rw [e, Option.bind_some, if_neg (show ¬ (1 : Int32) = 0 by decide)]
      rw [es] at k
      obtain ⟨R, y1, w, g1, g2, g3, g4, g5, _⟩ := goes_ok (dn := 0) (M := M) (d := d) (s := a) s (by rw [es]; exact hW) h2 (by rw [es]; exact lv_0 hM) (by omega) (by omega) (by rw [es]; exact k.2.2.2.2.2.1)
      rw [es] at g2
      have l14 := tr_14 hN g2
      have m16 := hW.2.2.1
      rw [g1, Option.bind_some]
      dsimp only
      obtain ⟨y2, f1, f2, f3⟩ := loads_L63 y1 g5 l14.1 (fun i l hi => by have := l14.2 i l hi; omega) (fun y6 => (f_X11_laysLoads_L33 (nI a) n (nI (d + 1)) y6 kk))
      rw [f1]
      have e310 : y1.1 310 = s.1 310 := yF_row g3 (fun c => by unfold go_W kn_W gw_W; omega)
      refine ih y2 ⟨yF_tr h1 (yF_tr (yF_mo g3 (fun q c z => Or.inl z)) (yF_mo f2 (fun q c z => Or.inr z))), kq_mo (f2.1 279 30 (by omega)) (fun q hq => yF_row f2 (fun c => by omega)) g4, ?_⟩
      exact LR_put (s := a) (d := d) h3 e1 e2 ⟨k.1, k.2.1, k.2.2.2.2⟩ g2 (fun i hi => by rw [f3 i, e310])
    · rw [e, Option.bind_some, if_pos rfl]
      refine ih s ⟨h1, h2, LR_skip (k := 8 * a + d) h3 (show ¬ csn (y0.1 289) np ((8 * a + d) / 8) ((8 * a + d) % 8) from ?_)⟩
      rw [e1, e2]
      exact fun z => no a d ⟨z.1, z.2.1, rfl, rfl, by rw [es]; exact z.2.2⟩) mF 0 y (Nat.lt_of_lt_of_le (show np < mF from Nat.lt_of_le_of_lt n8 (by decide)) (Nat.le_add_left _ _)) (Nat.zero_le _) hl
  exact z
theorem loads_L23 (hW : sW (y0.1 289) np) (h17 : y0.1 279 17 = nI np) (hM : sL (y0.1 289) M) (y : mY) (hl : lly np M y0 0 y) : ∃ y1, f_X11_laysLoads_L23 mF 0 y = some y1 ∧ lly np M y0 64 y1 := by
  have n8 := hW.1
  have z := lp_ok np (fun n b (s : mY) => f_X11_laysLoads_L23 n b s) (fun a s => lly np M y0 (8 * a) s) (P := fun y1 => lly np M y0 64 y1) (by
    rintro n s ⟨h1, h2, h3⟩
    show ∃ y1, f_X11_laysLoads_L23 (n + 1) (nI np) s = some y1 ∧ _
    have e17 : s.1 279 17 = nI np := by rw [h1.1 279 17 (by unfold ll_W go_W kn_W gw_W; omega)]; exact h17
    rw [f_X11_laysLoads_L23, if_pos (show s.1 279 17 ≤ nI np by rw [e17]; exact nI_le (Nat.le_refl _) (by omega))]
    have far := LR_far h3 (64 - 8 * np) (fun j h1 h2 z => by
      have := z.1
      omega)
    rw [show 8 * np + (64 - 8 * np) = 64 by omega] at far
    exact ⟨s, rfl, h1, h2, far⟩) (by
    rintro n a s ha h1 ih
    show ∃ y1, f_X11_laysLoads_L23 (n + 1) (nI a) s = some y1 ∧ _
    have e17 : s.1 279 17 = nI np := by rw [h1.1.1 279 17 (by unfold ll_W go_W kn_W gw_W; omega)]; exact h17
    rw [f_X11_laysLoads_L23, if_neg (show ¬ s.1 279 17 ≤ nI a by rw [e17]; exact nI_ge ha (by omega)), nI_1]
    obtain ⟨y1, g1, g2⟩ := loads_L33 ha hW h17 hM s h1 (fun y7 => (f_X11_laysLoads_L23 n (nI (a + 1)) y7))
    rw [g1]
    exact ih y1 (by rw [show 8 * (a + 1) = 8 * a + 8 by omega]; exact g2)) mF 0 y (Nat.lt_of_lt_of_le (show np < mF from Nat.lt_of_le_of_lt n8 (by decide)) (Nat.le_add_left _ _)) (Nat.zero_le _) hl
  exact z
theorem loads_L2 (y : mY) (kk : mY → Option mY) : ∃ y1, f_X11_laysLoads_L2 mF 0 y kk = kk y1 ∧ yF (fun q c => q = 310) y y1 ∧ ∀ i, i < 16 → y1.1 310 i = 0 := by
  have z := lp_up 16 (fun n b (s : mY) => f_X11_laysLoads_L2 n b s kk) (fun j s => yF (fun q c => q = 310) y s ∧ ∀ i, i < j → s.1 310 i = 0) (fun o => ∃ y1, o = kk y1 ∧ yF (fun q c => q = 310) y y1 ∧ ∀ i, i < 16 → y1.1 310 i = 0) (by
    rintro n s ⟨h1, h2⟩
    show ∃ y1, f_X11_laysLoads_L2 (n + 1) (nI 16) s kk = kk y1 ∧ _
    rw [f_X11_laysLoads_L2, if_pos (by decide)]
    exact ⟨s, rfl, h1, h2⟩) (by
    rintro n j s hj ⟨h1, h2⟩ ih
    show ∃ y1, f_X11_laysLoads_L2 (n + 1) (nI j) s kk = kk y1 ∧ _
    rw [f_X11_laysLoads_L2, if_neg (k16f hj), if_pos (in_ok hj (by decide)), cl (by omega), m_let, nI_1]
    refine ih _ ⟨yF_set h1 rfl, fun i hi => ?_⟩
    by_cases c : i = j
    · subst c; rw [ys_eq]
    · rw [ys_ec c]; exact h2 i (by omega)) mF 0 y (by decide) (by decide) ⟨yF_rf _ _, fun i hi => by omega⟩
  exact z
theorem laysLoads_ok (hW : sW (y.1 289) np) (h17 : y.1 279 17 = nI np) (hk : kq y) (hM : sL (y.1 289) M) : ∃ y1, f_X11_laysLoads y = some y1 ∧ lly np M y 64 y1 := by
  unfold f_X11_laysLoads
  obtain ⟨y1, g1, g2, g3⟩ := loads_L2 y (fun y2 => (f_X11_laysLoads_L23 mF (0 : Int32) y2))
  rw [g1]
  exact loads_L23 hW h17 hM y1 ⟨yF_mo g2 (fun q c z => Or.inr z), kq_mo (g2.1 279 30 (by omega)) (fun q hq => yF_row g2 (fun c => by omega)) hk, g3⟩
/-- both fill the loads: the same -/
theorem two_loads (h : IV np rt x y) : ∃ x1 y1, f_X10_fillLoads x = some (mxl (x1.1 253) 16, x1) ∧ f_X11_laysLoads y = some y1 ∧ IV np rt x1 y1 ∧ y1.1 289 = y.1 289 ∧ (∀ i, i < 16 → x1.1 253 i = y1.1 310 i) ∧ ∀ i, sm (y.1 289) ≤ i → i < 16 → x1.1 253 i = 0 := by
  have hN := sN_learnt h.1.1
  obtain ⟨M, m1, m2⟩ := live_ok x h.1.2 h.1.1
  obtain ⟨x1, e1, i1, l1⟩ := fillLoads_ok h m2
  obtain ⟨y1, e2, w2, k2, l2⟩ := laysLoads_ok h.1.1 h.2.1.1 h.2.2.2.2.2.2.2.1 m2
  exact ⟨x1, y1, e1, e2, IV_yk i1 w2 llk k2, ll_289 w2, LR_un hN _ _ _ l1 l2, LR_0 hN _ _ l1⟩
theorem two_link (h : IV np rt x y) (p : Int32) : (∃ k, k < sm (y.1 289) ∧ p = nI k ∧ f_X10_isLink p x = 1 ∧ f_X11_isLink p y = some 1) ∨ (f_X10_isLink p x = 0 ∧ f_X11_isLink p y = some 0) := by
  rcases isLink_x x h.1.2 h.1.1 p with ⟨k, k1, k2, k3⟩ | ⟨k1, k3⟩
  · rcases isLink_y y h.1.1 p with ⟨j, j1, j2, j3⟩ | ⟨j1, j3⟩
    · exact Or.inl ⟨k, k1, k2, k3, j3⟩
    · exact absurd k2 (j1 k k1)
  · rcases isLink_y y h.1.1 p with ⟨j, j1, j2, j3⟩ | ⟨j1, j3⟩
    · exact absurd j2 (k1 j j1)
    · exact Or.inr ⟨k3, j3⟩
theorem st_load (h : IV np rt x y) : sam (f_X10_load p1 x) (f_X11_load p1 y) := by
  unfold f_X10_load f_X11_load
  have m16 := h.1.1.2.2.1
  rcases two_link h p1 with ⟨k, k1, rfl, k3, k4⟩ | ⟨k3, k4⟩
  · obtain ⟨x1, y1, e1, e2, i1, es, l1, l2⟩ := two_loads h
    rw [k3, k4, if_neg (show ¬ (1 : Int32) = 0 by decide), Option.bind_some, if_neg (show ¬ (1 : Int32) = 0 by decide), e1, Option.bind_some, e2, Option.bind_some, if_pos (in_ok (by omega) (by decide)), if_pos (in_ok (by omega) (by decide)), cl (by omega)]
    dsimp only
    rw [l1 k (by omega)]
    exact ⟨_, x1, y1, rfl, rfl, np, rt, i1⟩
  · rw [k3, k4, if_pos rfl, Option.bind_some, if_pos rfl]
    exact ⟨_, x, y, rfl, rfl, np, rt, h⟩
theorem count_L223 (y : mY) (hW : sW (y.1 289) np) : f_X11_count_L223 mF 0 0 y = some (mxl (y.1 310) (sm (y.1 289)), y) := by
  have m16 := hW.2.2.1
  have e4 := hW.2.1
  have z := lp_up (sm (y.1 289)) (fun n b (s : Int32) => f_X11_count_L223 n s b y) (fun j s => s = mxl (y.1 310) j) (fun o => o = some (mxl (y.1 310) (sm (y.1 289)), y)) (by
    intro n s hI
    show f_X11_count_L223 (n + 1) s (nI (sm (y.1 289))) y = _
    rw [f_X11_count_L223, if_pos (show y.1 289 4 ≤ nI (sm (y.1 289)) by rw [e4]; exact nI_le (Nat.le_refl _) (by omega)), hI]) (by
    intro n j s hj hI ih
    show f_X11_count_L223 (n + 1) s (nI j) y = _
    rw [f_X11_count_L223, if_neg (show ¬ y.1 289 4 ≤ nI j by rw [e4]; exact nI_ge hj (by omega)), if_pos (in_ok (by omega) (by decide)), cl (by omega), nI_1]
    by_cases c : y.1 310 j ≤ s
    · rw [if_pos c]
      refine ih _ ?_
      show s = if mxl (y.1 310) j < y.1 310 j then _ else _
      rw [← hI, if_neg (Int32.not_lt.mpr c)]
    · rw [if_neg c, if_pos (in_ok (by omega) (by decide))]
      refine ih _ ?_
      show y.1 310 j = if mxl (y.1 310) j < y.1 310 j then _ else _
      rw [← hI, if_pos (Int32.not_le.mp c)]) mF 0 0 (Nat.lt_of_lt_of_le (show sm (y.1 289) < mF from Nat.lt_of_le_of_lt m16 (by decide)) (Nat.le_add_left _ _)) (Nat.zero_le _) rfl
  exact z
end SL
