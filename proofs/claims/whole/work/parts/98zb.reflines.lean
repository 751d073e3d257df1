/-! ===== the text: the reference's lines ===== -/
section TJ
variable {B : Nat → Nat} {b M k e p l : Nat} {sh : List Nat} {y y' y0 : mY} {R : Nat × Nat × Nat}
def lnV (q c : Nat) : Prop := q = 279 ∧ (c = 11 ∨ c = 12 ∨ c = 13 ∨ c = 19 ∨ c = 20)
/-- memory but for the lines' own cells -/
def lnZ (y0 y : mY) : Prop := (∀ q c, ¬ lnV q c → y.1 q c = y0.1 q c) ∧ ∀ q, q ≠ 287 → y.2 q = y0.2 q
theorem lnZ_F {y1 : mY} (h : lnZ y0 y) (f : yF lnW y y1) : lnZ y0 y1 := ⟨fun q c hq => (f.1 q c (fun z => hq (by unfold lnW at z; unfold lnV; omega))).trans (h.1 q c hq), fun q hq => by rw [f.2]; exact h.2 q hq⟩
theorem lnZ_s {c : Nat} {v : Int32} (h : lnZ y0 y) (hc : lnV 279 c) : lnZ y0 (m_ys y 279 c v) := ⟨fun q c' hq => by
  by_cases eq : q = 279
  · subst eq
    rw [ys_ec (show c' ≠ c from fun z => hq (by rw [z]; exact hc))]
    exact h.1 _ _ hq
  · rw [ys_ne eq]
    exact h.1 _ _ hq, h.2⟩
theorem lnZ_M (hM : yMt B b M y0) (h : lnZ y0 y) : yMt B b M y := yMt_c hM (funext fun c => h.1 282 c (by unfold lnV; omega)) (funext fun c => h.1 283 c (by unfold lnV; omega)) (funext fun c => h.1 284 c (by unfold lnV; omega)) (h.2 285 (by decide))
/-- a line fell -/
def lnB (b : Nat) (y0 : mY) (R : Nat × Nat × Nat) (y : mY) : Prop := lnZ y0 y ∧ ¬ R.1 = 0 ∧ R.1 < 6 ∧ R.2.1 ≤ b ∧ y.1 279 12 = nI R.1 ∧ y.1 279 13 = nI R.2.1
/-- names of the posts ahead of k -/
def lnN (B : Nat → Nat) (b k : Nat) (y : mY) : Prop := ∀ j, j < k → kdK B b j = 20 → y.2 287 (cNk (kdK B b) 20 j) = lN (vlw B 27 (tkS B b (j + 1)) (tkL B b (j + 1)))
/-- at the beginning of a line -/
def lnA (B : Nat → Nat) (b : Nat) (y0 : mY) (R : Nat × Nat × Nat) (k : Nat) (y : mY) : Prop := lnZ y0 y ∧ y.1 279 12 = 0 ∧ y.1 279 11 = nI k ∧ k ≤ 400 ∧ (∀ j, j < k → kdK B b j ≠ 0) ∧ y.1 279 19 = nI (cNk (kdK B b) 20 k) ∧ y.1 279 20 = nI (cNk (kdK B b) 21 k) ∧ cNk (kdK B b) 20 k ≤ 8 ∧ cNk (kdK B b) 21 k ≤ 16 ∧ lnN B b k y ∧ R = mcF B b mF k [] (cNk (kdK B b) 20 k) (cNk (kdK B b) 21 k)
theorem lnN_c {yb : mY} (h : lnN B b k yb) (e : y.2 287 = yb.2 287) : lnN B b k y := fun j hj hq => by rw [e]; exact h j hj hq
theorem lnN_s (h : lnN B b k y) (hq : kdK B b k ≠ 20) : lnN B b (k + 1) y := fun j hj hj20 => by
  by_cases ej : j = k
  · exact absurd (ej ▸ hj20) hq
  · exact h j (by omega) hj20
theorem lnS_B {yb : mY} {sh : List Nat} (hx : lnZ y0 yb) (h : lnS B b yb R k sh p l y) (hz : ¬ y.1 279 12 = 0) : lnB b y0 R y := by
  obtain ⟨f, ⟨a1, a2, a3, a4, a5⟩ | ⟨a1, a2, a3, a4, a5⟩⟩ := h
  · exact ⟨lnZ_F hx f, a1, a2, a3, a4, a5⟩
  · exact absurd a1 hz
theorem lnS_A {yb : mY} (hx : lnZ y0 yb) (h : lnS B b yb R k [] p l y) (hz : y.1 279 12 = 0) (hp : cNk (kdK B b) 20 k = p) (hl : cNk (kdK B b) 21 k = l) (p8 : p ≤ 8) (l16 : l ≤ 16) (h19 : yb.1 279 19 = nI p) (h20 : yb.1 279 20 = nI l) (hn : lnN B b k yb) : lnA B b y0 R k y := by
  obtain ⟨f, ⟨a1, a2, a3, a4, a5⟩ | ⟨a1, a2, a3, a4, a5⟩⟩ := h
  · rw [a4] at hz
    exact absurd hz (nI_n0 a1 a2)
  · refine ⟨lnZ_F hx f, a1, a2, a3, a4, ?_, ?_, by omega, by omega, lnN_c hn (by rw [f.2]), ?_⟩
    · rw [f.1 279 19 (by unfold lnW; omega), hp]; exact h19
    · rw [f.1 279 20 (by unfold lnW; omega), hl]; exact h20
    · rw [hp, hl]; exact a5
theorem cN_1 {K : Nat → Nat} {q : Nat} (h : K k = q) : cNk K q (k + 1) = cNk K q k + 1 := cNk_y h
theorem shp_c : shp 20 = [1, 4] ∧ shp 21 = [1, 1, 2, 4] ∧ shp 22 = [1, 4] ∧ shp 23 = [1, 4] ∧ shp 24 = [1, 1, 4] := by decide +kernel
/-- a line of 'post' from its name on -/
theorem tail_20 (hM : yMt B b M y0) {yb : mY} (hx : lnZ y0 yb) (k20 : kdK B b k = 20) (p8 : cNk (kdK B b) 20 k < 8) (l16 : cNk (kdK B b) 21 k ≤ 16) (h20 : yb.1 279 20 = nI (cNk (kdK B b) 21 k)) (hS : lnS B b yb R (k + 1) [1, 4] (cNk (kdK B b) 20 k + 1) (cNk (kdK B b) 21 k) yb) (hn : lnN B b k yb) (hf : yb.1 279 12 = 0 → kdK B b (k + 1) = 1 → yb.1 279 19 = nI (cNk (kdK B b) 20 k + 1) ∧ yb.2 287 (cNk (kdK B b) 20 k) = lN (vlw B 27 (tkS B b (k + 1)) (tkL B b (k + 1)))) : ∃ y', ((f_X11_must (1 : Int32) yb).bind fun q8 => (f_X11_must (4 : Int32) q8).bind fun q18 => some q18) = some y' ∧ (lnB b y0 R y' ∨ ∃ k', k < k' ∧ lnA B b y0 R k' y') := by
  have hMb := lnZ_M hM hx
  obtain ⟨y1, e1, s1, g1⟩ := must_s (e := 1) hMb (by decide) (by decide) hS
  obtain ⟨y2, e2, s2, g2⟩ := must_s (e := 4) hMb (by decide) (by decide) s1
  rw [show f_X11_must (1 : Int32) yb = some y1 from e1, Option.bind_some, show f_X11_must (4 : Int32) y1 = some y2 from e2, Option.bind_some]
  refine ⟨y2, rfl, ?_⟩
  by_cases hz : y2.1 279 12 = 0
  · obtain ⟨z1, q2⟩ := g2 hz
    obtain ⟨z0, q1⟩ := g1 z1
    obtain ⟨h19, hnm⟩ := hf z0 q1
    refine Or.inr ⟨k + 1 + 1 + 1, by omega, lnS_A hx s2 hz ?_ ?_ (by omega) l16 h19 h20 ?_⟩
    · rw [cNk_n (k := k + 1 + 1) (by omega), cNk_n (k := k + 1) (by omega), cNk_y (k := k) k20]
    · rw [cNk_n (k := k + 1 + 1) (by omega), cNk_n (k := k + 1) (by omega), cNk_n (k := k) (by omega)]
    · refine lnN_s (k := k + 1 + 1) (lnN_s (k := k + 1) (fun j hj hq => ?_) (by omega)) (by omega)
      by_cases ej : j = k
      · subst ej
        exact hnm
      · exact hn j (by omega) hq
  · exact Or.inl (lnS_B hx s2 hz)
/-- a line of 'off' or 'root' -/
theorem tail_22 (hM : yMt B b M y0) {yb : mY} (hx : lnZ y0 yb) (k22 : kdK B b k = 22 ∨ kdK B b k = 23) (p8 : cNk (kdK B b) 20 k ≤ 8) (l16 : cNk (kdK B b) 21 k ≤ 16) (h19 : yb.1 279 19 = nI (cNk (kdK B b) 20 k)) (h20 : yb.1 279 20 = nI (cNk (kdK B b) 21 k)) (hS : lnS B b yb R (k + 1) [1, 4] (cNk (kdK B b) 20 k) (cNk (kdK B b) 21 k) y) (hn : lnN B b k yb) : ∃ y', ((f_X11_must (1 : Int32) y).bind fun q8 => (f_X11_must (4 : Int32) q8).bind fun q18 => some q18) = some y' ∧ (lnB b y0 R y' ∨ ∃ k', k < k' ∧ lnA B b y0 R k' y') := by
  have hMb := lnZ_M hM hx
  obtain ⟨y1, e1, s1, g1⟩ := must_s (e := 1) hMb (by decide) (by decide) hS
  obtain ⟨y2, e2, s2, g2⟩ := must_s (e := 4) hMb (by decide) (by decide) s1
  rw [show f_X11_must (1 : Int32) y = some y1 from e1, Option.bind_some, show f_X11_must (4 : Int32) y1 = some y2 from e2, Option.bind_some]
  refine ⟨y2, rfl, ?_⟩
  by_cases hz : y2.1 279 12 = 0
  · obtain ⟨z1, q2⟩ := g2 hz
    obtain ⟨z0, q1⟩ := g1 z1
    refine Or.inr ⟨k + 1 + 1 + 1, by omega, lnS_A hx s2 hz ?_ ?_ p8 l16 h19 h20 ?_⟩
    · rw [cNk_n (k := k + 1 + 1) (by omega), cNk_n (k := k + 1) (by omega), cNk_n (k := k) (by omega)]
    · rw [cNk_n (k := k + 1 + 1) (by omega), cNk_n (k := k + 1) (by omega), cNk_n (k := k) (by omega)]
    · exact lnN_s (k := k + 1 + 1) (lnN_s (k := k + 1) (lnN_s (k := k) (hn) (by omega)) (by omega)) (by omega)
  · exact Or.inl (lnS_B hx s2 hz)
/-- a line of 'down' -/
theorem tail_24 (hM : yMt B b M y0) {yb : mY} (hx : lnZ y0 yb) (k24 : kdK B b k = 24) (p8 : cNk (kdK B b) 20 k ≤ 8) (l16 : cNk (kdK B b) 21 k ≤ 16) (h19 : yb.1 279 19 = nI (cNk (kdK B b) 20 k)) (h20 : yb.1 279 20 = nI (cNk (kdK B b) 21 k)) (hS : lnS B b yb R (k + 1) [1, 1, 4] (cNk (kdK B b) 20 k) (cNk (kdK B b) 21 k) y) (hn : lnN B b k yb) : ∃ y', ((f_X11_must (1 : Int32) y).bind fun q8 => (f_X11_must (1 : Int32) q8).bind fun q12 => (f_X11_must (4 : Int32) q12).bind fun q15 => some q15) = some y' ∧ (lnB b y0 R y' ∨ ∃ k', k < k' ∧ lnA B b y0 R k' y') := by
  have hMb := lnZ_M hM hx
  obtain ⟨y1, e1, s1, g1⟩ := must_s (e := 1) hMb (by decide) (by decide) hS
  obtain ⟨y2, e2, s2, g2⟩ := must_s (e := 1) hMb (by decide) (by decide) s1
  obtain ⟨y3, e3, s3, g3⟩ := must_s (e := 4) hMb (by decide) (by decide) s2
  rw [show f_X11_must (1 : Int32) y = some y1 from e1, Option.bind_some, show f_X11_must (1 : Int32) y1 = some y2 from e2, Option.bind_some, show f_X11_must (4 : Int32) y2 = some y3 from e3, Option.bind_some]
  refine ⟨y3, rfl, ?_⟩
  by_cases hz : y3.1 279 12 = 0
  · obtain ⟨z2, q3⟩ := g3 hz
    obtain ⟨z1, q2⟩ := g2 z2
    obtain ⟨z0, q1⟩ := g1 z1
    refine Or.inr ⟨k + 1 + 1 + 1 + 1, by omega, lnS_A hx s3 hz ?_ ?_ p8 l16 h19 h20 ?_⟩
    · rw [cNk_n (k := k + 1 + 1 + 1) (by omega), cNk_n (k := k + 1 + 1) (by omega), cNk_n (k := k + 1) (by omega), cNk_n (k := k) (by omega)]
    · rw [cNk_n (k := k + 1 + 1 + 1) (by omega), cNk_n (k := k + 1 + 1) (by omega), cNk_n (k := k + 1) (by omega), cNk_n (k := k) (by omega)]
    · exact lnN_s (k := k + 1 + 1 + 1) (lnN_s (k := k + 1 + 1) (lnN_s (k := k + 1) (lnN_s (k := k) (hn) (by omega)) (by omega)) (by omega)) (by omega)
  · exact Or.inl (lnS_B hx s3 hz)
/-- a line of 'link' -/
theorem tail_21 (hM : yMt B b M y0) {yb : mY} (hx : lnZ y0 yb) (k21 : kdK B b k = 21) (p8 : cNk (kdK B b) 20 k ≤ 8) (l16 : cNk (kdK B b) 21 k < 16) (h19 : yb.1 279 19 = nI (cNk (kdK B b) 20 k)) (h20 : yb.1 279 20 = nI (cNk (kdK B b) 21 k)) (hS : lnS B b yb R (k + 1) [1, 1, 2, 4] (cNk (kdK B b) 20 k) (cNk (kdK B b) 21 k + 1) y) (hn : lnN B b k yb) : ∃ y', ((f_X11_must (1 : Int32) y).bind fun q8 => (f_X11_must (1 : Int32) (m_ys q8 279 20 ((q8.1 279 20) + (1 : Int32)))).bind fun q12 => (f_X11_must (2 : Int32) q12).bind fun q13 => (f_X11_must (4 : Int32) q13).bind fun q14 => some q14) = some y' ∧ (lnB b y0 R y' ∨ ∃ k', k < k' ∧ lnA B b y0 R k' y') := by
  have hMb := lnZ_M hM hx
  obtain ⟨y1, e1, s1, g1⟩ := must_s (e := 1) hMb (by decide) (by decide) hS
  have x1 := lnZ_F hx s1.1
  obtain ⟨yc, hc⟩ : ∃ yc, m_ys y1 279 20 ((y1.1 279 20) + (1 : Int32)) = yc := ⟨_, rfl⟩
  have xc : lnZ y0 yc := by rw [← hc]; exact lnZ_s x1 ⟨rfl, by omega⟩
  have hMc := lnZ_M hM xc
  have c12 : yc.1 279 12 = y1.1 279 12 := by rw [← hc, ys_ec (by decide)]
  have c19 : yc.1 279 19 = nI (cNk (kdK B b) 20 k) := by rw [← hc, ys_ec (by decide), s1.1.1 279 19 (by unfold lnW; omega)]; exact h19
  have c20 : yc.1 279 20 = nI (cNk (kdK B b) 21 k + 1) := by rw [← hc, ys_eq, s1.1.1 279 20 (by unfold lnW; omega), h20, nI_1]
  have c2 : yc.2 = yb.2 := by rw [← hc]; exact s1.1.2
  have sc : lnS B b yc R (k + 1 + 1) [1, 2, 4] (cNk (kdK B b) 20 k) (cNk (kdK B b) 21 k + 1) yc := by
    refine ⟨yF_rf _ _, ?_⟩
    rcases s1.2 with ⟨a1, a2, a3, a4, a5⟩ | ⟨a1, a2, a3, a4, a5⟩
    · exact Or.inl ⟨a1, a2, a3, by rw [c12]; exact a4, by rw [← hc, ys_ec (by decide)]; exact a5⟩
    · exact Or.inr ⟨by rw [c12]; exact a1, by rw [← hc, ys_ec (by decide)]; exact a2, a3, a4, a5⟩
  obtain ⟨y2, e2, s2, g2⟩ := must_s (e := 1) hMc (by decide) (by decide) sc
  obtain ⟨y3, e3, s3, g3⟩ := must_s (e := 2) hMc (by decide) (by decide) s2
  obtain ⟨y4, e4, s4, g4⟩ := must_s (e := 4) hMc (by decide) (by decide) s3
  rw [show f_X11_must (1 : Int32) y = some y1 from e1, Option.bind_some, hc, show f_X11_must (1 : Int32) yc = some y2 from e2, Option.bind_some, show f_X11_must (2 : Int32) y2 = some y3 from e3, Option.bind_some, show f_X11_must (4 : Int32) y3 = some y4 from e4, Option.bind_some]
  refine ⟨y4, rfl, ?_⟩
  by_cases hz : y4.1 279 12 = 0
  · obtain ⟨z3, q4⟩ := g4 hz
    obtain ⟨z2, q3⟩ := g3 z3
    obtain ⟨z1, q2⟩ := g2 z2
    rw [c12] at z1
    obtain ⟨z0, q1⟩ := g1 z1
    refine Or.inr ⟨k + 1 + 1 + 1 + 1 + 1, by omega, lnS_A xc s4 hz ?_ ?_ p8 (by omega) c19 c20 ?_⟩
    · rw [cNk_n (k := k + 1 + 1 + 1 + 1) (by omega), cNk_n (k := k + 1 + 1 + 1) (by omega), cNk_n (k := k + 1 + 1) (by omega), cNk_n (k := k + 1) (by omega), cNk_n (k := k) (by omega)]
    · rw [cNk_n (k := k + 1 + 1 + 1 + 1) (by omega), cNk_n (k := k + 1 + 1 + 1) (by omega), cNk_n (k := k + 1 + 1) (by omega), cNk_n (k := k + 1) (by omega), cNk_y (k := k) k21]
    · exact lnN_s (k := k + 1 + 1 + 1 + 1) (lnN_s (k := k + 1 + 1 + 1) (lnN_s (k := k + 1 + 1) (lnN_s (k := k + 1) (lnN_s (k := k) (lnN_c hn (by rw [c2])) (by omega)) (by omega)) (by omega)) (by omega)) (by omega)
  · exact Or.inl (lnS_B xc s4 hz)
theorem fail_B (hM : yMt B b M y0) (hA : lnA B b y0 R k y) {c : Nat} (hc : ¬ c = 0) (h6 : c < 6) (hR1 : R.1 = c) (hR2 : R.2.1 = tkS B b k) : ∃ y', ((f_X11_fail (nI c) y).bind fun q => some q) = some y' ∧ (lnB b y0 R y' ∨ ∃ k', k < k' ∧ lnA B b y0 R k' y') := by
  obtain ⟨a1, a2, a3, a4, a5, a6⟩ := hA
  have hMy := lnZ_M hM a1
  rw [fail_ok hMy a2 a3 (hMy.2.2 k a4 a5), Option.bind_some]
  refine ⟨_, rfl, Or.inl ⟨lnZ_s (lnZ_s a1 ⟨rfl, by omega⟩) ⟨rfl, by omega⟩, by omega, by omega, ?_, ?_, ?_⟩⟩
  · rw [hR2]; exact tkS_b k
  · rw [ys_ec (by decide), ys_eq, hR1]
  · rw [ys_eq, hR2]
end TJ
