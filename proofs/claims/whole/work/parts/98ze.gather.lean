/-! ===== the text: the class gathers its posts and links ===== -/
section TM
variable {B : Nat → Nat} {b N k t : Nat} {x x' x0 : mX}
def xTk (B : Nat → Nat) (b N : Nat) (x : mX) : Prop := x.1 1 4 = nI N ∧ tkX B b x N
def ixT (B : Nat → Nat) (b N t : Nat) : Nat := ixX B b (fpT B b N t)
def cdX (B : Nat → Nat) (b N t : Nat) : Int32 := if fpT B b N t < N then nI (ixT B b N t) else -1
theorem cdX_y (c : fpT B b N t < N) : cdX B b N t = nI (ixT B b N t) := if_pos c
theorem cdX_n (c : ¬ fpT B b N t < N) : cdX B b N t = -1 := if_neg c
theorem ix_8 (h : txK (kdK B b) N) (c : fpT B b N t < N) : ixT B b N t < 8 := by
  have a := cNk_lt c (fsT_f c)
  have d := Kfp_le (K := kdK B b) (W := Wd B b) N
  have e := h.2.2.2.2.1
  show cNk (Kfp (kdK B b) (Wd B b)) 20 (fpT B b N t) < 8
  omega
theorem ix_inj {t' : Nat} (c : fpT B b N t < N) (c' : fpT B b N t' < N) : ixT B b N t = ixT B b N t' ↔ Wd B b t = Wd B b t' := by
  constructor
  · intro h
    have e : fpT B b N t = fpT B b N t' := cNk_inj (fsT_f c) (fsT_f c') h
    have u := ((fsT_ok (K := kdK B b) (W := Wd B b) (w := Wd B b t) N).2.1 c).2
    have v := ((fsT_ok (K := kdK B b) (W := Wd B b) (w := Wd B b t') N).2.1 c').2
    rw [← u, ← v]
    show Wd B b (fpT B b N t + 1) = Wd B b (fpT B b N t' + 1)
    rw [e]
  · intro h
    show ixX B b (fsT (kdK B b) (Wd B b) (Wd B b t) N) = ixX B b (fsT (kdK B b) (Wd B b) (Wd B b t') N)
    rw [h]
theorem fp_W {t' : Nat} (h : Wd B b t = Wd B b t') : fpT B b N t = fpT B b N t' := by
  show fsT (kdK B b) (Wd B b) (Wd B b t) N = fsT (kdK B b) (Wd B b) (Wd B b t') N
  rw [h]
theorem cd_m1 (h : txK (kdK B b) N) : cdX B b N t = -1 ↔ ¬ fpT B b N t < N := by
  by_cases c : fpT B b N t < N
  · have i8 := ix_8 h c
    rw [cdX_y c]
    exact ⟨fun z => absurd z (nI_m1 (by omega)), fun z => absurd c z⟩
  · rw [cdX_n c]
    exact ⟨fun _ => c, fun _ => rfl⟩
theorem kindAt_x (h : xTk B b N x) (hN : N ≤ 400) (hk : k < N) : f_X5_kindAt (nI k) x = some (nI (srt (kdK B b k))) := by
  unfold f_X5_kindAt
  rw [if_neg (nI_pos (by omega)), h.1, if_neg (nI_ge hk (by omega)), if_pos (in_ok (by omega) (by decide)), cl (by omega), (h.2 k hk).2.1]
theorem valueAt_x (h : xTk B b N x) (hN : N ≤ 400) (hk : k < N) : f_X5_valueAt (nI k) x = some (x.2.1 10 k) := by
  unfold f_X5_valueAt
  rw [if_neg (nI_pos (by omega)), h.1, if_neg (nI_ge hk (by omega)), if_pos (in_ok (by omega) (by decide)), cl (by omega)]
theorem placeAt_x (h : xTk B b N x) (hN : N ≤ 400) (hk : k < N) : f_X5_placeAt (nI k) x = some (nI (tkS B b k)) := by
  unfold f_X5_placeAt
  rw [if_neg (nI_pos (by omega)), h.1, if_neg (nI_ge hk (by omega)), if_pos (in_ok (by omega) (by decide)), cl (by omega), (h.2 k hk).2.2.1]
theorem value_1 (h : xTk B b N x) (hN : N ≤ 400) (hk : k < N) (h1 : kdK B b k = 1) : f_X5_valueAt (nI k) x = some (lN (vlw B 32 (tkS B b k) (tkL B b k))) := by
  rw [valueAt_x h hN hk, (h.2 k hk).2.2.2.1 h1]
theorem ixX_le {j : Nat} (h : txK (kdK B b) N) (hj : j ≤ N) : ixX B b j ≤ 8 := by
  have a := cNk_le (K := Kfp (kdK B b) (Wd B b)) (q := 20) j N hj
  have d := Kfp_le (K := kdK B b) (W := Wd B b) N
  have e := h.2.2.2.2.1
  show cNk (Kfp (kdK B b) (Wd B b)) 20 j ≤ 8
  omega
/-- a post found among all -/
theorem find_N (h : txK (kdK B b) N) (hx : xNm B b N x) (ht : kdK B b t = 1) : f_X5_find (lN (vlw B 32 (tkS B b t) (tkL B b t))) x = some (cdX B b N t) := find_x hx (ixX_le h (Nat.le_refl _)) (fun j hj h20 => (h.2.1 j hj (Or.inl h20)).1) ht
/-- memory kept while names are gathered -/
def gaN (x0 x : mX) : Prop := (∀ q c, ¬ (q = 1 ∧ c = 12) → x.1 q c = x0.1 q c) ∧ (∀ q, q ≠ 11 → x.2.1 q = x0.2.1 q)
theorem xTk_c (h : xTk B b N x0) (h4 : x.1 1 4 = x0.1 1 4) (h8 : x.1 8 = x0.1 8) (h9 : x.1 9 = x0.1 9) (h10 : x.2.1 10 = x0.2.1 10) : xTk B b N x := by
  unfold xTk tkX
  rw [h4, h8, h9, h10]
  exact h
theorem gaN_T (h : xTk B b N x0) (g : gaN x0 x) : xTk B b N x := xTk_c h (g.1 1 4 (by omega)) (funext fun c => g.1 8 c (by omega)) (funext fun c => g.1 9 c (by omega)) (g.2 10 (by decide))
theorem xl_ne {z : mX} {q q' c : Nat} {v : Int64} (h : q' ≠ q) : (m_xl z q c v).2.1 q' = z.2.1 q' := by
  unfold m_xl va_up
  simp [h]
theorem gather_1 (h : txK (kdK B b) N) (hT : xTk B b N x0) (kk : mX → Option mX) {x : mX} (hg : gaN x0 x) (hx : x.1 1 12 = 0) : ∃ x', f_X5_gather_L7 mF 0 x kk = kk x' ∧ gaN x0 x' ∧ xNm B b N x' := by
  have hN := h.1
  refine lp_up N (fun n a (s : mX) => f_X5_gather_L7 n a s kk) (fun j s => gaN x0 s ∧ xNm B b j s) (fun o => ∃ x', o = kk x' ∧ gaN x0 x' ∧ xNm B b N x') ?_ ?_ mF 0 x (Nat.lt_of_le_of_lt hN (by decide)) (Nat.zero_le _) ⟨hg, hx, fun j hj => absurd hj (Nat.not_lt_zero _)⟩
  · rintro n s ⟨g1, g2⟩
    show ∃ x', f_X5_gather_L7 (n + 1) (nI N) s kk = _ ∧ _
    rw [f_X5_gather_L7, (gaN_T hT g1).1, if_pos (nI_le (Nat.le_refl _) (by omega))]
    exact ⟨s, rfl, g1, g2⟩
  · rintro n j s hj ⟨g1, g2⟩ ih
    show ∃ x', f_X5_gather_L7 (n + 1) (nI j) s kk = _ ∧ _
    have hTs := gaN_T hT g1
    have kb := kdK_b (B := B) (b := b) j
    have hkd : isKd (kdK B b j) := by
      have t := (hTs.2 j hj).1
      have hS : tkS B b j < b := Classical.byContradiction fun z => t ((kdK_0 j).mpr z)
      rw [show kdK B b j = kdT B (tkS B b j) (tkE B b (tkS B b j)) from if_pos hS]
      exact kdT_k _ _
    have sp := srt_pl _ kb hkd
    rw [f_X5_gather_L7, hTs.1, if_neg (nI_ge hj (by omega)), kindAt_x hTs hN hj, Option.bind_some, nI_1]
    by_cases c : kdK B b j = 20
    · have t1 := h.2.1 j hj (Or.inl c)
      have lt8 : ixX B b j < 8 := by
        have a := Kfp_le (K := kdK B b) (W := Wd B b) j
        have d := cNk_lt hj c
        have e := h.2.2.2.2.1
        show cNk (Kfp (kdK B b) (Wd B b)) 20 j < 8
        omega
      have hs12 : s.1 1 12 = nI (ixX B b j) := g2.1
      have fx := find_x g2 (by omega) (fun i hi h20 => (h.2.1 i (by omega) (Or.inl h20)).1) t1.1
      rw [if_pos (sp.1.mpr c), hs12, if_neg (show ¬ (8 : Int32) ≤ nI (ixX B b j) from nI_ge (b := 8) lt8 (by decide)), value_1 hTs hN t1.2 t1.1, Option.bind_some, fx, Option.bind_some]
      by_cases d : fpT B b j (j + 1) < j
      · have fl : ixX B b (fpT B b j (j + 1)) ≤ 8 := ixX_le h (by omega)
        have nk : ¬ Kfp (kdK B b) (Wd B b) j = 20 := fun z => by
          have z2 : fpT B b j (j + 1) = j := (Kfp_20.mp z).2
          omega
        rw [if_pos d, if_neg (nI_m1 (by omega))]
        refine ih s ⟨g1, ?_, fun i hi h20 => ?_⟩
        · rw [cNk_n nk]; exact g2.1
        · by_cases ei : i = j
          · exact absurd (ei ▸ h20) nk
          · exact g2.2 i (by omega) h20
      · have f1 := (fsT_ok (K := kdK B b) (W := Wd B b) (w := Wd B b (j + 1)) j).1
        have fj : fsT (kdK B b) (Wd B b) (Wd B b (j + 1)) j = j := by
          have d' : ¬ fsT (kdK B b) (Wd B b) (Wd B b (j + 1)) j < j := d
          omega
        have yk : Kfp (kdK B b) (Wd B b) j = 20 := Kfp_20.mpr ⟨c, fj⟩
        rw [if_neg d, if_pos rfl, Option.bind_some, if_pos (in_ok lt8 (by decide)), m_let, m_let, cl (by omega)]
        have e12 : (m_xl s 11 (ixX B b j) (lN (vlw B 32 (tkS B b (j + 1)) (tkL B b (j + 1))))).1 1 12 = nI (ixX B b j) := hs12
        rw [e12, nI_1]
        refine ih _ ⟨⟨fun q c hq => ?_, fun q hq => ?_⟩, ?_, fun i hi h20 => ?_⟩
        · by_cases e1 : q = 1
          · subst e1
            rw [xs_ec (by omega)]
            exact g1.1 1 c hq
          · rw [xs_ne e1]
            exact g1.1 q c hq
        · show (m_xl s 11 (ixX B b j) (lN (vlw B 32 (tkS B b (j + 1)) (tkL B b (j + 1))))).2.1 q = _
          rw [xl_ne hq]
          exact g1.2 q hq
        · rw [xs_eq, cNk_y yk]
          rfl
        · show (m_xl s 11 (ixX B b j) (lN (vlw B 32 (tkS B b (j + 1)) (tkL B b (j + 1))))).2.1 11 _ = _
          rw [xl_at]
          by_cases ei : i = j
          · subst ei
            rw [if_pos (show cNk (Kfp (kdK B b) (Wd B b)) 20 i = ixX B b i from rfl)]
          · have lt := cNk_lt (show i < j by omega) h20
            rw [if_neg (show ¬ cNk (Kfp (kdK B b) (Wd B b)) 20 i = ixX B b j from fun z => by
              have z2 : cNk (Kfp (kdK B b) (Wd B b)) 20 i = cNk (Kfp (kdK B b) (Wd B b)) 20 j := z
              omega)]
            exact g2.2 i (by omega) h20
    · rw [if_neg (fun z => c (sp.1.mp z))]
      have nk : ¬ Kfp (kdK B b) (Wd B b) j = 20 := fun z => c (Kfp_20.mp z).1
      refine ih s ⟨g1, ?_, fun i hi h20 => ?_⟩
      · rw [cNk_n nk]; exact g2.1
      · by_cases ei : i = j
        · exact absurd (ei ▸ h20) nk
        · exact g2.2 i (by omega) h20
/-- rows emptied -/
theorem gather_2 (kk : mX → Option mX) (x : mX) : ∃ x', f_X5_gather_L88 mF 0 x kk = kk x' ∧ xF (fun q _ => q = 12 ∨ q = 13) x x' ∧ ∀ a, a < 8 → x'.1 12 a = 0 ∧ x'.1 13 a = 0 := by
  refine lp_up 8 (fun n a (s : mX) => f_X5_gather_L88 n a s kk) (fun j s => xF (fun q _ => q = 12 ∨ q = 13) x s ∧ ∀ a, a < j → s.1 12 a = 0 ∧ s.1 13 a = 0) (fun o => ∃ x', o = kk x' ∧ xF (fun q _ => q = 12 ∨ q = 13) x x' ∧ ∀ a, a < 8 → x'.1 12 a = 0 ∧ x'.1 13 a = 0) ?_ ?_ mF 0 x (by decide) (by decide) ⟨xF_rf _ _, fun a ha => absurd ha (Nat.not_lt_zero _)⟩
  · rintro n s ⟨g1, g2⟩
    show ∃ x', f_X5_gather_L88 (n + 1) (nI 8) s kk = _ ∧ _
    rw [f_X5_gather_L88, if_pos (by decide)]
    exact ⟨s, rfl, g1, g2⟩
  · rintro n j s hj ⟨g1, g2⟩ ih
    show ∃ x', f_X5_gather_L88 (n + 1) (nI j) s kk = _ ∧ _
    rw [f_X5_gather_L88, if_neg (k8f hj), if_pos (in_ok hj (by decide)), m_let, if_pos (in_ok hj (by decide)), m_let, cl (by omega), nI_1]
    refine ih _ ⟨xF_set (xF_set g1 (Or.inl rfl)) (Or.inr rfl), fun a ha => ?_⟩
    rw [xs_ne (by decide)]
    by_cases ea : a = j
    · subst ea
      rw [xs_eq, xs_eq]
      exact ⟨rfl, rfl⟩
    · rw [xs_ec ea, xs_ec ea, xs_ne (by decide)]
      exact g2 a (by omega)
/-- two marked -/
theorem mark_y {r a c : Nat} (ha : a < 8) (hc : c < 8) (hac : a ≠ c) (x : mX) : ∃ x', f_X5_mark r (nI a) (nI c) x = some x' ∧ xF (fun q i => q = r ∧ i < 8) x x' ∧ ∀ i j, bt (x'.1 r i) j = true ↔ bt (x.1 r i) j = true ∨ (i = a ∧ j = c) ∨ (i = c ∧ j = a) := by
  unfold f_X5_mark
  have ia : m_in (nI a) 8 = true := in_ok ha (by decide)
  have ic : m_in (nI c) 8 = true := in_ok hc (by decide)
  rw [if_neg (nI_pos (by omega)), if_neg (nI_pos (by omega)), if_neg (fun z => hac ((nI_eq (by omega) (by omega)).mp z)), if_neg (k8f ha), if_neg (k8f hc), if_pos ia, if_pos ia, m_let, if_pos ic, if_pos ic, m_let, cl (by omega), cl (by omega)]
  refine ⟨_, rfl, xF_set (xF_set (xF_rf _ _) ⟨rfl, ha⟩) ⟨rfl, hc⟩, fun i j => ?_⟩
  by_cases e1 : i = c
  · subst e1
    rw [xs_eq, xs_ec (fun z => hac z.symm), b_or, b_bit (by omega), Bool.or_eq_true, decide_eq_true_eq]
    constructor
    · rintro (z | z)
      · exact Or.inl z
      · exact Or.inr (Or.inr ⟨rfl, z⟩)
    · rintro (z | ⟨z, _⟩ | ⟨_, z⟩)
      · exact Or.inl z
      · exact absurd z (fun e => hac e.symm)
      · exact Or.inr z
  · rw [xs_ec e1]
    by_cases e2 : i = a
    · subst e2
      rw [xs_eq, b_or, b_bit (by omega), Bool.or_eq_true, decide_eq_true_eq]
      constructor
      · rintro (z | z)
        · exact Or.inl z
        · exact Or.inr (Or.inl ⟨rfl, z⟩)
      · rintro (z | ⟨_, z⟩ | ⟨z, _⟩)
        · exact Or.inl z
        · exact Or.inr z
        · exact absurd z e1
    · rw [xs_ec e2]
      constructor
      · exact Or.inl
      · rintro (z | ⟨z, _⟩ | ⟨z, _⟩)
        · exact z
        · exact absurd z e2
        · exact absurd z e1
/-- the two of the line at j, in either order -/
def twX (B : Nat → Nat) (b N j i c : Nat) : Prop := (i = ixT B b N (j + 1) ∧ c = ixT B b N (j + 2)) ∨ (i = ixT B b N (j + 2) ∧ c = ixT B b N (j + 1))
/-- rows of two by two, out of the lines of kind q ahead of k -/
def rwX (B : Nat → Nat) (b N q k r : Nat) (x : mX) : Prop := ∀ i, i < 8 → ∀ c, bt (x.1 r i) c = true ↔ ∃ j, j < k ∧ kdK B b j = q ∧ fpT B b N (j + 1) < N ∧ fpT B b N (j + 2) < N ∧ Wd B b (j + 1) ≠ Wd B b (j + 2) ∧ twX B b N j i c
theorem rwX_n {q r : Nat} (h : rwX B b N q k r x) (hq : ¬ (kdK B b k = q ∧ fpT B b N (k + 1) < N ∧ fpT B b N (k + 2) < N ∧ Wd B b (k + 1) ≠ Wd B b (k + 2))) : rwX B b N q (k + 1) r x := fun i hi c => by
  rw [h i hi c]
  constructor
  · rintro ⟨j, j1, j2⟩
    exact ⟨j, by omega, j2⟩
  · rintro ⟨j, j1, j2, j3, j4, j5, j6⟩
    by_cases e : j = k
    · subst e
      exact absurd ⟨j2, j3, j4, j5⟩ hq
    · exact ⟨j, by omega, j2, j3, j4, j5, j6⟩
theorem rwX_y {q r : Nat} (h : rwX B b N q k r x) (c0 : kdK B b k = q) (c1 : fpT B b N (k + 1) < N) (c2 : fpT B b N (k + 2) < N) (c3 : Wd B b (k + 1) ≠ Wd B b (k + 2)) (g : ∀ i j, bt (x'.1 r i) j = true ↔ bt (x.1 r i) j = true ∨ (i = ixT B b N (k + 1) ∧ j = ixT B b N (k + 2)) ∨ (i = ixT B b N (k + 2) ∧ j = ixT B b N (k + 1))) : rwX B b N q (k + 1) r x' := fun i hi c => by
  rw [g i c, h i hi c]
  constructor
  · rintro (⟨j, j1, j2⟩ | z)
    · exact ⟨j, by omega, j2⟩
    · exact ⟨k, by omega, c0, c1, c2, c3, z⟩
  · rintro ⟨j, j1, j2, j3, j4, j5, j6⟩
    by_cases e : j = k
    · subst e
      exact Or.inr j6
    · exact Or.inl ⟨j, by omega, j2, j3, j4, j5, j6⟩
end TM
