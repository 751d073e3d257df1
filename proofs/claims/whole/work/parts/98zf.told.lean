/-! ===== the text: the class gathers; what is told so far ===== -/
section TN
variable {B : Nat → Nat} {b N k t t' : Nat} {x x' x0 s : mX}
theorem mark_n {r : Nat} (h : txK (kdK B b) N) (hq : ¬ (fpT B b N t < N ∧ fpT B b N t' < N ∧ Wd B b t ≠ Wd B b t')) (x : mX) : f_X5_mark r (cdX B b N t) (cdX B b N t') x = some x := by
  unfold f_X5_mark
  by_cases c1 : fpT B b N t < N
  · have i8 := ix_8 h c1
    rw [cdX_y c1, if_neg (nI_pos (by omega))]
    by_cases c2 : fpT B b N t' < N
    · have j8 := ix_8 h c2
      have e : Wd B b t = Wd B b t' := Classical.byContradiction fun z => hq ⟨c1, c2, z⟩
      rw [cdX_y c2, if_neg (nI_pos (by omega)), if_pos (by rw [(ix_inj c1 c2).mpr e])]
    · rw [cdX_n c2, if_pos (by decide)]
  · rw [cdX_n c1, if_pos (by decide)]
theorem isKd_t (hT : xTk B b N x) (hk : k < N) : isKd (kdK B b k) := by
  have u := (hT.2 k hk).1
  have hS : tkS B b k < b := Classical.byContradiction fun z => u ((kdK_0 k).mpr z)
  rw [show kdK B b k = kdT B (tkS B b k) (tkE B b (tkS B b k)) from if_pos hS]
  exact kdT_k _ _
theorem xNm_c (h : xNm B b k x0) (h1 : x.1 1 12 = x0.1 1 12) (h2 : x.2.1 11 = x0.2.1 11) : xNm B b k x := by
  unfold xNm
  rw [h1, h2]
  exact h
theorem gather_3 (h : txK (kdK B b) N) (hT : xTk B b N x0) (hn : xNm B b N x0) (h0 : ∀ a, a < 8 → x0.1 12 a = 0) : ∃ x', f_X5_gather_L116 mF 0 x0 = some x' ∧ xF (fun q i => q = 12 ∧ i < 8) x0 x' ∧ rwX B b N 21 N 12 x' := by
  have hN := h.1
  refine lp_ok N (fun n a (s : mX) => f_X5_gather_L116 n a s) (fun j s => xF (fun q i => q = 12 ∧ i < 8) x0 s ∧ rwX B b N 21 j 12 s) ?_ ?_ mF 0 x0 (Nat.lt_of_le_of_lt hN (by decide)) (Nat.zero_le _) ⟨xF_rf _ _, fun i hi c => by
    rw [h0 i hi, b_0]
    exact ⟨fun z => (by cases z), fun ⟨j, j1, _⟩ => absurd j1 (Nat.not_lt_zero _)⟩⟩
  · rintro n s ⟨g1, g2⟩
    show ∃ x', f_X5_gather_L116 (n + 1) (nI N) s = _ ∧ _
    rw [f_X5_gather_L116, g1.1 1 4 (by omega), hT.1, if_pos (nI_le (Nat.le_refl _) (by omega))]
    exact ⟨s, rfl, g1, g2⟩
  · rintro n j s hj ⟨g1, g2⟩ ih
    show ∃ x', f_X5_gather_L116 (n + 1) (nI j) s = _ ∧ _
    have hTs : xTk B b N s := xTk_c hT (g1.1 1 4 (by omega)) (xF_row g1 (fun c => by omega)) (xF_row g1 (fun c => by omega)) (by rw [g1.2])
    have hns : xNm B b N s := xNm_c hn (g1.1 1 12 (by omega)) (by rw [g1.2])
    have sp := srt_pl _ (kdK_b j) (isKd_t hTs hj)
    rw [f_X5_gather_L116, hTs.1, if_neg (nI_ge hj (by omega)), kindAt_x hTs hN hj, Option.bind_some, nI_1]
    by_cases c : kdK B b j = 21
    · have t1 := h.2.2.1 j hj c
      rw [if_pos (sp.2.1.mpr c), value_1 hTs hN (by omega) t1.1, Option.bind_some, find_N h hns t1.1, Option.bind_some, show nI j + (2 : Int32) = nI (j + 2) from nI_add j 2, value_1 hTs hN (by omega) t1.2.1, Option.bind_some, find_N h hns t1.2.1, Option.bind_some]
      by_cases d : fpT B b N (j + 1) < N ∧ fpT B b N (j + 2) < N ∧ Wd B b (j + 1) ≠ Wd B b (j + 2)
      · obtain ⟨d1, d2, d3⟩ := d
        obtain ⟨s1, e1, w1, b1⟩ := mark_y (r := 12) (ix_8 h d1) (ix_8 h d2) (fun z => d3 ((ix_inj d1 d2).mp z)) s
        rw [cdX_y d1, cdX_y d2, e1, Option.bind_some]
        exact ih s1 ⟨xF_tr g1 w1, rwX_y g2 c d1 d2 d3 b1⟩
      · rw [mark_n h d, Option.bind_some]
        exact ih s ⟨g1, rwX_n g2 (fun z => d ⟨z.2.1, z.2.2.1, z.2.2.2⟩)⟩
    · rw [if_neg (fun z => c (sp.2.1.mp z))]
      exact ih s ⟨g1, rwX_n g2 (fun z => c z.1)⟩
/-- cells that the gathering changes -/
def gaW (q c : Nat) : Prop := (q = 1 ∧ (c = 12 ∨ c = 16)) ∨ q = 12 ∨ q = 13
def gaF (x0 x : mX) : Prop := (∀ q c, ¬ gaW q c → x.1 q c = x0.1 q c) ∧ ∀ q, q ≠ 11 → x.2.1 q = x0.2.1 q
theorem gaF_T (h : xTk B b N x0) (g : gaF x0 x) : xTk B b N x := xTk_c h (g.1 1 4 (by unfold gaW; omega)) (funext fun c => g.1 8 c (by unfold gaW; omega)) (funext fun c => g.1 9 c (by unfold gaW; omega)) (g.2 10 (by decide))
theorem gather_x (h : txK (kdK B b) N) (hT : xTk B b N x) : ∃ x', f_X5_gather x = some x' ∧ gaF x x' ∧ xNm B b N x' ∧ x'.1 1 16 = 0 ∧ rwX B b N 21 N 12 x' ∧ ∀ a, a < 8 → x'.1 13 a = 0 := by
  unfold f_X5_gather
  rw [m_let]
  obtain ⟨x1, e1, g1, n1⟩ := gather_1 h hT (fun x8 => (m_let (m_xs x8 1 16 (0 : Int32)) fun x9 => (f_X5_gather_L88 mF (0 : Int32) x9 (fun x12 => (f_X5_gather_L116 mF (0 : Int32) x12))))) (x := m_xs x 1 12 0) ⟨fun q c hq => by
    by_cases e : q = 1
    · subst e
      rw [xs_ec (by omega)]
    · rw [xs_ne e], fun _ _ => rfl⟩ (xs_eq _ _ _ _)
  rw [e1, m_let]
  obtain ⟨x2, e2, g2, z2⟩ := gather_2 (fun x12 => (f_X5_gather_L116 mF (0 : Int32) x12)) (m_xs x1 1 16 0)
  rw [e2]
  have f2 : ∀ q c, ¬ gaW q c → x2.1 q c = x.1 q c := fun q c hq => by
    unfold gaW at hq
    rw [g2.1 q c (by omega)]
    by_cases e : q = 1
    · subst e
      rw [xs_ec (by omega)]
      exact g1.1 1 c (by omega)
    · rw [xs_ne e]
      exact g1.1 q c (by omega)
  have l2 : x2.2 = x1.2 := g2.2
  have hT2 : xTk B b N x2 := gaF_T hT ⟨f2, fun q hq => by rw [l2]; exact g1.2 q hq⟩
  have n2 : xNm B b N x2 := xNm_c n1 (by rw [g2.1 1 12 (by omega), xs_ec (by decide)]) (by rw [l2])
  obtain ⟨x3, e3, g3, r3⟩ := gather_3 h hT2 n2 (fun a ha => (z2 a ha).1)
  rw [e3]
  refine ⟨x3, rfl, ⟨fun q c hq => ?_, fun q hq => ?_⟩, xNm_c n2 (g3.1 1 12 (by omega)) (by rw [g3.2]), ?_, r3, fun a ha => ?_⟩
  · unfold gaW at hq
    rw [g3.1 q c (by omega)]
    exact f2 q c (by unfold gaW; omega)
  · rw [g3.2, l2]
    exact g1.2 q hq
  · rw [g3.1 1 16 (by omega), g2.1 1 16 (by omega), xs_eq]
  · rw [g3.1 13 a (by omega)]
    exact (z2 a ha).2
/-! what is told -/
theorem ex_s {P : Nat → Prop} : (∃ j, j < k + 1 ∧ P j) ↔ (∃ j, j < k ∧ P j) ∨ P k := by
  constructor
  · rintro ⟨j, j1, j2⟩
    by_cases e : j = k
    · exact Or.inr (e ▸ j2)
    · exact Or.inl ⟨j, by omega, j2⟩
  · rintro (⟨j, j1, j2⟩ | h)
    · exact ⟨j, by omega, j2⟩
    · exact ⟨k, by omega, h⟩
theorem ex_n {P : Nat → Prop} (h : ¬ P k) : (∃ j, j < k + 1 ∧ P j) ↔ ∃ j, j < k ∧ P j := by
  rw [ex_s]
  exact ⟨fun z => z.resolve_right h, Or.inl⟩
/-- the root told last -/
def rtK (K ix : Nat → Nat) : Nat → Nat
  | 0 => 0
  | k + 1 => if K k = 23 then ix (k + 1) else rtK K ix k
def ofK (K ix : Nat → Nat) (k i : Nat) : Prop := ∃ j, j < k ∧ K j = 22 ∧ i = ix (j + 1)
theorem ofK_n {K ix : Nat → Nat} {i : Nat} (h : ¬ K k = 22) : ofK K ix (k + 1) i ↔ ofK K ix k i := ex_n (P := fun j => K j = 22 ∧ i = ix (j + 1)) (fun z => h z.1)
theorem ofK_y {K ix : Nat → Nat} {i : Nat} (h : K k = 22) : ofK K ix (k + 1) i ↔ ofK K ix k i ∨ i = ix (k + 1) := (ex_s (P := fun j => K j = 22 ∧ i = ix (j + 1))).trans ⟨fun z => z.imp id (fun z => z.2), fun z => z.imp id (fun z => ⟨h, z⟩)⟩
def lkX (B : Nat → Nat) (b N k : Nat) (x : mX) : Prop := ∀ j, j < k → kdK B b j = 21 → x.1 3 (cNk (kdK B b) 21 j) = nI (ixT B b N (j + 1)) ∧ x.1 4 (cNk (kdK B b) 21 j) = nI (ixT B b N (j + 2)) ∧ x.1 5 (cNk (kdK B b) 21 j) = nI (Vd B b (j + 3)) ∧ x.1 6 (cNk (kdK B b) 21 j) = 0
theorem lkX_n (h : lkX B b N k x) (hq : ¬ kdK B b k = 21) : lkX B b N (k + 1) x := fun j hj h21 => by
  by_cases e : j = k
  · exact absurd (e ▸ h21) hq
  · exact h j (by omega) h21
theorem lkX_c (h : lkX B b N k x) (h3 : x'.1 3 = x.1 3) (h4 : x'.1 4 = x.1 4) (h5 : x'.1 5 = x.1 5) (h6 : x'.1 6 = x.1 6) : lkX B b N k x' := by
  unfold lkX
  rw [h3, h4, h5, h6]
  exact h
theorem rwX_c {q r : Nat} (h : rwX B b N q k r x) (e : x'.1 r = x.1 r) : rwX B b N q k r x' := by
  unfold rwX
  rw [e]
  exact h
/-- the class's draft after the lines ahead of k -/
def drX (B : Nat → Nat) (b N k : Nat) (x : mX) : Prop := x.1 2 0 = nI (cNk (kdK B b) 20 k) ∧ x.1 2 1 = nI (cNk (kdK B b) 21 k) ∧ (∀ i, bt (x.1 2 3) i = true ↔ i < cNk (kdK B b) 21 k) ∧ x.1 2 4 = nI (rtK (kdK B b) (ixT B b N) k) ∧ (∀ c, 5 ≤ c → c < 10 → x.1 2 c = 0) ∧ lkX B b N k x ∧ (∀ i, bt (x.1 1 16) i = true ↔ ofK (kdK B b) (ixT B b N) k i) ∧ rwX B b N 24 k 13 x
def tlW (q c : Nat) : Prop := (q = 1 ∧ c = 16) ∨ (2 ≤ q ∧ q ≤ 6) ∨ q = 13
def tlI (B : Nat → Nat) (b N : Nat) (x0 : mX) (k : Nat) (x : mX) : Prop := xF tlW x0 x ∧ drX B b N k x
/-- what is known before the telling -/
def tlG (B : Nat → Nat) (b N : Nat) (x : mX) : Prop := txK (kdK B b) N ∧ xTk B b N x ∧ xNm B b N x ∧ rwX B b N 21 N 12 x
theorem tlG_F (h : tlG B b N x0) (f : xF tlW x0 x) : tlG B b N x := by
  refine ⟨h.1, xTk_c h.2.1 (f.1 1 4 (by unfold tlW; omega)) (xF_row f (fun c => by unfold tlW; omega)) (xF_row f (fun c => by unfold tlW; omega)) (by rw [f.2]), xNm_c h.2.2.1 (f.1 1 12 (by unfold tlW; omega)) (by rw [f.2]), rwX_c h.2.2.2 (xF_row f (fun c => by unfold tlW; omega))⟩
theorem drX_n (h : drX B b N k x) (hq : kdK B b k < 20) : drX B b N (k + 1) x := by
  obtain ⟨h1, h2, h3, h4, h5, h6, h7, h8⟩ := h
  refine ⟨by rw [cNk_n (by omega)]; exact h1, by rw [cNk_n (by omega)]; exact h2, by rw [cNk_n (by omega)]; exact h3, ?_, h5, lkX_n h6 (by omega), fun i => (h7 i).trans (ofK_n (by omega)).symm, rwX_n h8 (fun z => by omega)⟩
  rw [show rtK (kdK B b) (ixT B b N) (k + 1) = rtK (kdK B b) (ixT B b N) k from if_neg (by omega)]
  exact h4
theorem fl_x (hT : xTk B b N x) (hN : N ≤ 400) (ht : t < N) (c : Int32) : ((f_X5_placeAt (nI t) x).bind fun q => ((f_X5_failAt c q x).bind fun q' => (some (q'.1, q'.2)))) = some (c, m_xs x 1 1 (nI (tkS B b t))) := by
  rw [placeAt_x hT hN ht, Option.bind_some]
  rfl
/-- how a line of the class's comes out -/
def tlO (B : Nat → Nat) (b N : Nat) (x0 : mX) (k : Nat) (s : mX) (o : Option (Int32 × mX)) : Prop := ((lnF (kdK B b) (Wd B b) (Vd B b) N k).1 = 0 ∧ ∃ s', o = some (0, s') ∧ tlI B b N x0 (k + 1) s') ∨ (¬ (lnF (kdK B b) (Wd B b) (Vd B b) N k).1 = 0 ∧ o = some (nI (lnF (kdK B b) (Wd B b) (Vd B b) N k).1, m_xs s 1 1 (nI (tkS B b (lnF (kdK B b) (Wd B b) (Vd B b) N k).2))))
theorem tlO_f {o : Option (Int32 × mX)} {c t : Nat} (hc : ¬ c = 0) (hl : lnF (kdK B b) (Wd B b) (Vd B b) N k = (c, t)) (ho : o = some (nI c, m_xs s 1 1 (nI (tkS B b t)))) : tlO B b N x0 k s o := by
  unfold tlO
  rw [hl]
  exact Or.inr ⟨hc, ho⟩
theorem tlO_y {o : Option (Int32 × mX)} {s' : mX} (hl : lnF (kdK B b) (Wd B b) (Vd B b) N k = (0, 0)) (ho : o = some (0, s')) (hI : tlI B b N x0 (k + 1) s') : tlO B b N x0 k s o := by
  unfold tlO
  rw [hl]
  exact Or.inl ⟨rfl, s', ho, hI⟩
end TN
