/-! ===== weak ===== -/
section SO
variable {np rt s d : Nat} {x x' : mX} {y y0 : mY} {p1 p2 : Int32} {σ : Nat → Int32} {M : Int32}
def wo2 (M : Int32) (i k : Nat) : Int32 := M &&& ((((1 : Int32) <<< (nI i &&& 31)) ||| ((1 : Int32) <<< (nI k &&& 31))) ^^^ (-1 : Int32))
theorem wo2_b {i k l : Nat} (hi : i < 16) (hk : k < 16) : bt (wo2 M i k) l = true ↔ bt M l = true ∧ l ≠ i ∧ l ≠ k := by
  unfold wo2
  rw [b_wos, Bool.and_eq_true, b_or, b_bit (by omega), b_bit (by omega)]
  simp
theorem wo2_c (i k : Nat) : wo2 M i k = wo2 M k i := by
  unfold wo2
  refine b_eq_iff fun l => ?_
  rw [b_wos, b_wos, b_or, b_or, Bool.or_comm]
/-- two links whose loss at once loses it, though it could come -/
def wkp (σ : Nat → Int32) (M : Int32) (s d i k : Nat) : Prop := bt M i = true ∧ bt M k = true ∧ (∃ R, tr σ (σ 2) (σ 3) (wo2 M i k) d 20 0 s [] (-2) R ∧ R.1 ≠ d) ∧ g_C (sA σ (wo2 M i k)) (bS (σ 0)) s d
theorem wkp_c {i k : Nat} (h : wkp σ M s d i k) : wkp σ M s d k i := by
  unfold wkp
  rw [wo2_c k i]
  exact ⟨h.2.1, h.1, h.2.2⟩
def wQ (σ : Nat → Int32) (M : Int32) (s d c : Nat) : Prop := c / 16 < c % 16 ∧ wkp σ M s d (c / 16) (c % 16)
def wQ' (σ : Nat → Int32) (M : Int32) (s d c : Nat) : Prop := c % 16 < c / 16 ∧ wkp σ M s d (c / 16) (c % 16)
theorem wQ_eq : g_n (wQ σ M s d) 256 = g_n (wQ' σ M s d) 256 := by
  have tr1 : ∀ c, c < 256 → (c % 16) * 16 + c / 16 < 256 ∧ ((c % 16) * 16 + c / 16) / 16 = c % 16 ∧ ((c % 16) * 16 + c / 16) % 16 = c / 16 := fun c hc => ⟨by omega, by omega, by omega⟩
  have inj : ∀ c d v, c < 256 → d < 256 → v = (c % 16) * 16 + c / 16 → v = (d % 16) * 16 + d / 16 → c = d := fun c d v hc hd h1 h2 => by omega
  have a := g_n_inj2 256 (fun c v => v = (c % 16) * 16 + c / 16) inj 256 (wQ σ M s d) (wQ' σ M s d) (fun c hc h => ⟨_, (tr1 c hc).1, ⟨by rw [(tr1 c hc).2.1, (tr1 c hc).2.2]; exact h.1, by rw [(tr1 c hc).2.1, (tr1 c hc).2.2]; exact wkp_c h.2⟩, rfl⟩)
  have b := g_n_inj2 256 (fun c v => v = (c % 16) * 16 + c / 16) inj 256 (wQ' σ M s d) (wQ σ M s d) (fun c hc h => ⟨_, (tr1 c hc).1, ⟨by rw [(tr1 c hc).2.1, (tr1 c hc).2.2]; exact h.1, by rw [(tr1 c hc).2.1, (tr1 c hc).2.2]; exact wkp_c h.2⟩, rfl⟩)
  omega
theorem mlv_2 (h : sL σ M) {i k : Nat} (hi : i < 16) (hk : k < 16) : mlv σ (wo2 M i k) := fun l hl => by
  have := (h l).mp ((wo2_b hi hk).mp hl).1
  exact ⟨this.1, this.2.2⟩
/-- the class's state while it looks -/
def wkx (np rt : Nat) (y : mY) (d : Nat) (x : mX) : Prop := IV np rt x y ∧ x.1 0 8 = 0 ∧ ct_r x.1 (y.1 289) (y.1 289 2) (y.1 289 3) d
theorem weak_L38 (hs : bt (y.1 289 0) s = true) (hs8 : s < 8) (hd : d < 8) (hM : sL (y.1 289) M) {i : Nat} (hi : i < 16) (x : mX) (h : wkx np rt y d x) (kk : Int32 → mX → Option (Int32 × mX)) : ∃ x1, f_X10_weak_L38 (nI s) (nI d) M (nI i) mF (nI (g_n (wQ (y.1 289) M s d) (16 * i))) (nI (i + 1)) x kk = kk (nI (g_n (wQ (y.1 289) M s d) (16 * i + 16))) x1 ∧ wkx np rt y d x1 := by
  have start : g_n (wQ (y.1 289) M s d) (16 * i) = g_n (wQ (y.1 289) M s d) (16 * i + (i + 1)) := (g_n_flat (by omega) (fun c h1 h2 z => by have := z.1; omega)).symm
  rw [start]
  have z := lp_up 16 (fun n b (s' : Nat × mX) => f_X10_weak_L38 (nI s) (nI d) M (nI i) n (nI s'.1) b s'.2 kk) (fun k s' => i < k ∧ s'.1 = g_n (wQ (y.1 289) M s d) (16 * i + k) ∧ wkx np rt y d s'.2) (fun o => ∃ x1, o = kk (nI (g_n (wQ (y.1 289) M s d) (16 * i + 16))) x1 ∧ wkx np rt y d x1) (by
    rintro n ⟨c, x1⟩ ⟨_, h1, h2⟩
    dsimp only at h1 h2
    show ∃ x2, f_X10_weak_L38 (nI s) (nI d) M (nI i) (n + 1) (nI c) (nI 16) x1 kk = _ ∧ _
    rw [f_X10_weak_L38, if_pos (by decide), h1]
    exact ⟨x1, rfl, h2⟩) (by
    rintro n k ⟨c, x1⟩ hk ⟨h0, h1, h2⟩ ih
    dsimp only at h1 h2
    show ∃ x2, f_X10_weak_L38 (nI s) (nI d) M (nI i) (n + 1) (nI c) (nI k) x1 kk = _ ∧ _
    have e1 : (16 * i + k) / 16 = i := by omega
    have e2 : (16 * i + k) % 16 = k := by omega
    have hN := sN_learnt h2.1.1.1
    rw [f_X10_weak_L38, if_neg (k16f hk), m_jn, nI_1]
    dsimp only
    have no : ∀ x2, wkx np rt y d x2 → ¬ wkp (y.1 289) M s d i k → ∃ x2', f_X10_weak_L38 (nI s) (nI d) M (nI i) n (nI c) (nI (k + 1)) x2 kk = kk (nI (g_n (wQ (y.1 289) M s d) (16 * i + 16))) x2' ∧ wkx np rt y d x2' := fun x2 hx hn => ih (c, x2) ⟨by omega, by
      show c = g_n _ (16 * i + k + 1)
      rw [g_n_stay _ (fun z => hn (by have := z.2; rw [e1, e2] at this; exact this))]
      exact h1, hx⟩
    have yes : ∀ x2, wkx np rt y d x2 → wkp (y.1 289) M s d i k → ∃ x2', f_X10_weak_L38 (nI s) (nI d) M (nI i) n (nI c + 1) (nI (k + 1)) x2 kk = kk (nI (g_n (wQ (y.1 289) M s d) (16 * i + 16))) x2' ∧ wkx np rt y d x2' := fun x2 hx hn => by
      rw [nI_1]
      refine ih (c + 1, x2) ⟨by omega, ?_, hx⟩
      show c + 1 = g_n _ (16 * i + k + 1)
      rw [g_n_step (P := wQ (y.1 289) M s d) (16 * i + k) ⟨by rw [e1, e2]; exact h0, by rw [e1, e2]; exact hn⟩, h1]
    rw [if_pos (show (0 : Int32) = 0 from rfl)]
    by_cases c1 : bt M i = true
    · rw [if_neg (h10t (by omega) c1)]
      by_cases c2 : bt M k = true
      · rw [if_neg (h10t (by omega) c2), if_neg (show ¬ (1 : Int32) = 0 by decide)]
        obtain ⟨R, w, x2, g1, t1, k1, g2, g3, g4⟩ := comes_x (M := wo2 M i k) h2.1 h2.2.1 hs8 hd h2.2.2
        have g1' : f_X10_comes (nI s) (nI d) (M &&& ((((1 : Int32) <<< (nI i &&& 31)) ||| ((1 : Int32) <<< (nI k &&& 31))) ^^^ (-1 : Int32))) x1 = some (w, x2) := g1
        rw [g1', Option.bind_some]
        rcases k1 with ⟨k1, rfl⟩ | ⟨k1, rfl⟩
        · dsimp only
          rw [if_neg (show ¬ (1 : Int32) = 0 by decide)]
          refine no x2 ⟨g2, g3, g4⟩ (fun z => ?_)
          obtain ⟨R', t2, k2⟩ := z.2.2.1
          rw [tr_un hN _ _ _ _ _ _ _ t2 t1] at k2
          exact k2 k1
        · dsimp only
          rw [if_pos (show (0 : Int32) = 0 from rfl)]
          rcases joined_ok (M := wo2 M i k) g2.1.2 g2.1.1 (mlv_2 hM hi hk) hs hd with ⟨j1, j2⟩ | ⟨j1, j2⟩
          · have j2' : f_X6_joined (nI s) (nI d) (M &&& ((((1 : Int32) <<< (nI i &&& 31)) ||| ((1 : Int32) <<< (nI k &&& 31))) ^^^ (-1 : Int32))) x2 = some 1 := j2
            rw [j2', Option.bind_some, if_neg (show ¬ (1 : Int32) = 0 by decide)]
            exact yes x2 ⟨g2, g3, g4⟩ ⟨c1, c2, ⟨R, t1, k1⟩, j1⟩
          · have j2' : f_X6_joined (nI s) (nI d) (M &&& ((((1 : Int32) <<< (nI i &&& 31)) ||| ((1 : Int32) <<< (nI k &&& 31))) ^^^ (-1 : Int32))) x2 = some 0 := j2
            rw [j2', Option.bind_some, if_pos (show (0 : Int32) = 0 from rfl)]
            exact no x2 ⟨g2, g3, g4⟩ (fun z => j1 z.2.2.2)
      · rw [if_pos (h10f (by omega) c2)]
        exact no x1 h2 (fun z => c2 z.2.1)
    · rw [if_pos (h10f (by omega) c1)]
      exact no x1 h2 (fun z => c1 z.1)) mF (i + 1) (g_n (wQ (y.1 289) M s d) (16 * i + (i + 1)), x) (Nat.lt_of_lt_of_le (show 16 < mF by decide) (Nat.le_add_left _ _)) (by omega) ⟨by omega, rfl, h⟩
  exact z
theorem weak_x (hs : bt (y.1 289 0) s = true) (hs8 : s < 8) (hd : d < 8) (hM : sL (y.1 289) M) (x : mX) (h : wkx np rt y d x) : ∃ x1, f_X10_weak_L25 (nI s) (nI d) M mF 0 0 x = some (nI (g_n (wQ (y.1 289) M s d) 256), x1) ∧ IV np rt x1 y := by
  have z := lp_ok 16 (fun n b (s' : Nat × mX) => f_X10_weak_L25 (nI s) (nI d) M n (nI s'.1) b s'.2) (fun i s' => s'.1 = g_n (wQ (y.1 289) M s d) (16 * i) ∧ wkx np rt y d s'.2) (P := fun r => r.1 = nI (g_n (wQ (y.1 289) M s d) 256) ∧ IV np rt r.2 y) (by
    rintro n ⟨c, x1⟩ ⟨h1, h2⟩
    dsimp only at h1 h2
    show ∃ r, f_X10_weak_L25 (nI s) (nI d) M (n + 1) (nI c) (nI 16) x1 = some r ∧ _
    rw [f_X10_weak_L25, if_pos (by decide), h1]
    exact ⟨_, rfl, rfl, h2.1⟩) (by
    rintro n i ⟨c, x1⟩ hi ⟨h1, h2⟩ ih
    dsimp only at h1 h2
    show ∃ r, f_X10_weak_L25 (nI s) (nI d) M (n + 1) (nI c) (nI i) x1 = some r ∧ _
    rw [f_X10_weak_L25, if_neg (k16f hi), nI_1, h1]
    obtain ⟨x2, g1, g2⟩ := weak_L38 hs hs8 hd hM hi x1 h2 (fun v8 x9 => (f_X10_weak_L25 (nI s) (nI d) M n v8 (nI (i + 1)) x9))
    rw [g1]
    exact ih (g_n (wQ (y.1 289) M s d) (16 * i + 16), x2) ⟨congrArg (g_n (wQ (y.1 289) M s d)) (show 16 * i + 16 = 16 * (i + 1) by omega), g2⟩) mF 0 (0, x) (by decide) (by decide) ⟨rfl, h⟩
  obtain ⟨r, e, k1, k2⟩ := z
  refine ⟨r.2, ?_, k2⟩
  rw [← k1]
  exact e
/-- the reference's -/
def wk_Wy (q c : Nat) : Prop := go_W q c ∨ q = 293
def wky (y0 : mY) (y : mY) : Prop := yF wk_Wy y0 y ∧ kq y
theorem lv_2 (h : sL σ M) {i k : Nat} (hi : i < 16) (hk : k < 16) : lv_M σ (((1 : Int32) <<< (nI i &&& 31)) ||| ((1 : Int32) <<< (nI k &&& 31))) (wo2 M i k) := fun l => by
  rw [wo2_b hi hk, h l, b_or, b_bit (by omega), b_bit (by omega)]
  simp
theorem weak_L36 (hW : sW (y0.1 289) np) (hs : bt (y0.1 289 0) s = true) (hs8 : s < 8) (hd : d < 8) (hM : sL (y0.1 289) M) {a : Nat} (ha : a < sm (y0.1 289)) (y : mY) (h : wky y0 y) (kk : Int32 → mY → Option (Int32 × mY)) : ∃ y1, f_X11_weak_L36 (nI s) (nI d) M (nI a) mF (nI (g_n (wQ' (y0.1 289) M s d) (16 * a))) 0 y kk = kk (nI (g_n (wQ' (y0.1 289) M s d) (16 * a + 16))) y1 ∧ wky y0 y1 := by
  have m16 := hW.2.2.1
  have hN := sN_learnt hW
  have z := lp_up a (fun n b (s' : Nat × mY) => f_X11_weak_L36 (nI s) (nI d) M (nI a) n (nI s'.1) b s'.2 kk) (fun k s' => s'.1 = g_n (wQ' (y0.1 289) M s d) (16 * a + k) ∧ wky y0 s'.2) (fun o => ∃ y1, o = kk (nI (g_n (wQ' (y0.1 289) M s d) (16 * a + 16))) y1 ∧ wky y0 y1) (by
    rintro n ⟨c, y1⟩ ⟨h1, h2⟩
    dsimp only at h1 h2
    show ∃ y2, f_X11_weak_L36 (nI s) (nI d) M (nI a) (n + 1) (nI c) (nI a) y1 kk = _ ∧ _
    rw [f_X11_weak_L36, if_pos (nI_le (Nat.le_refl _) (by omega)), h1]
    exact ⟨y1, by rw [← g_n_flat (P := wQ' (y0.1 289) M s d) (show 16 * a + a ≤ 16 * a + 16 by omega) (fun c h1 h2 z => by have := z.1; omega)], h2⟩) (by
    rintro n b ⟨c, y1⟩ hb ⟨h1, h2⟩ ih
    dsimp only at h1 h2
    show ∃ y2, f_X11_weak_L36 (nI s) (nI d) M (nI a) (n + 1) (nI c) (nI b) y1 kk = _ ∧ _
    have e1 : (16 * a + b) / 16 = a := by omega
    have e2 : (16 * a + b) % 16 = b := by omega
    have es : y1.1 289 = y0.1 289 := yF_row h2.1 (fun c => by unfold wk_Wy go_W kn_W gw_W; omega)
    rw [f_X11_weak_L36, if_neg (nI_ge hb (by omega)), nI_1]
    have no : ∀ y2, wky y0 y2 → ¬ wkp (y0.1 289) M s d a b → ∃ y2', f_X11_weak_L36 (nI s) (nI d) M (nI a) n (nI c) (nI (b + 1)) y2 kk = kk (nI (g_n (wQ' (y0.1 289) M s d) (16 * a + 16))) y2' ∧ wky y0 y2' := fun y2 hx hn => ih (c, y2) ⟨by
      show c = g_n _ (16 * a + b + 1)
      rw [g_n_stay _ (fun z => hn (by have := z.2; rw [e1, e2] at this; exact this))]
      exact h1, hx⟩
    have yes : ∀ y2, wky y0 y2 → wkp (y0.1 289) M s d a b → ∃ y2', f_X11_weak_L36 (nI s) (nI d) M (nI a) n (nI c + 1) (nI (b + 1)) y2 kk = kk (nI (g_n (wQ' (y0.1 289) M s d) (16 * a + 16))) y2' ∧ wky y0 y2' := fun y2 hx hn => by
      rw [nI_1]
      refine ih (c + 1, y2) ⟨?_, hx⟩
      show c + 1 = g_n _ (16 * a + b + 1)
      rw [g_n_step (P := wQ' (y0.1 289) M s d) (16 * a + b) ⟨by rw [e1, e2]; exact hb, by rw [e1, e2]; exact hn⟩, h1]
    by_cases c1 : bt M a = true ∧ bt M b = true
    · rw [if_pos (b_sub.mpr (fun i hi => by
        rw [b_or, Bool.or_eq_true, b_bit (by omega), b_bit (by omega), decide_eq_true_eq, decide_eq_true_eq] at hi
        rcases hi with rfl | rfl
        · exact c1.1
        · exact c1.2))]
      obtain ⟨R, y2, w, g1, t1, w1, kq1, _, _, k1⟩ := goes_ok (dn := ((1 : Int32) <<< (nI a &&& 31)) ||| ((1 : Int32) <<< (nI b &&& 31))) (M := wo2 M a b) (d := d) (s := s) y1 (by rw [es]; exact hW) h2.2 (by rw [es]; exact lv_2 hM (by omega) (by omega)) hd hs8 (by rw [es]; exact hs)
      rw [es] at t1
      have h3 : wky y0 y2 := ⟨yF_tr h2.1 (yF_mo w1 (fun q c z => Or.inl z)), kq1⟩
      have es2 : y2.1 289 = y0.1 289 := yF_row h3.1 (fun c => by unfold wk_Wy go_W kn_W gw_W; omega)
      rw [g1, Option.bind_some]
      rcases k1 with ⟨k1, rfl⟩ | ⟨k1, rfl⟩
      · dsimp only
        rw [if_neg (show ¬ (1 : Int32) = 0 by decide)]
        refine no y2 h3 (fun z => ?_)
        obtain ⟨R', t2, k2⟩ := z.2.2.1
        rw [tr_un hN _ _ _ _ _ _ _ t2 t1] at k2
        exact k2 k1
      · dsimp only
        rw [if_pos (show (0 : Int32) = 0 from rfl)]
        obtain ⟨y3, f1, f2, f3⟩ := lays_ok (w := 2) (by decide) (L := wo2 M a b) y2 (by rw [es2]; exact hW) (by rw [es2]; exact fun l hl => (mlv_2 hM (by omega) (by omega) l hl).1)
        have f1' : f_X11_lays_ (2 : Int32) (M &&& ((((1 : Int32) <<< (nI a &&& 31)) ||| ((1 : Int32) <<< (nI b &&& 31))) ^^^ (-1 : Int32))) y2 = some y3 := f1
        rw [f1', Option.bind_some]
        have es3 : y3.1 289 = y0.1 289 := by rw [f2.1 289 (by decide)]; exact es2
        have h4 : wky y0 y3 := ⟨yF_tr h3.1 (yF_mo (yF_R f2) (fun q c z => Or.inr z.1)), kq_mo (by rw [f2.1 279 (by decide)]) (fun q hq => f2.1 q (by omega)) h3.2⟩
        rw [es2] at f3
        have eA := nA_sA (f := fun p => y3.1 293 (8 * 2 + p)) f3
        obtain ⟨S, j1, j2⟩ := comes_ok (w := 2) (by decide) (W := y3.1 289 0) (by rw [es3]; exact (sW_b8 hW).1) y3 hs8 (by rw [es3]; exact hs)
        have j1' : f_X11_comes (2 : Int32) (nI s) (y3.1 289 0) y3 = some S := j1
        rw [j1', Option.bind_some]
        rw [eA, es3] at j2
        by_cases c2 : bt S d = true
        · rw [if_neg (h11t (by omega) c2)]
          exact yes y3 h4 ⟨c1.1, c1.2, ⟨R, t1, k1⟩, (j2 d).mp c2⟩
        · rw [if_pos (h11f (by omega) c2)]
          exact no y3 h4 (fun z => c2 ((j2 d).mpr z.2.2.2))
    · rw [if_neg (fun z => c1 ?_)]
      · exact no y1 h2 (fun z => c1 ⟨z.1, z.2.1⟩)
      · have t := b_sub.mp z
        constructor
        · exact t a (by rw [b_or, Bool.or_eq_true, b_bit (by omega), b_bit (by omega), decide_eq_true_eq, decide_eq_true_eq]; exact Or.inl rfl)
        · exact t b (by rw [b_or, Bool.or_eq_true, b_bit (by omega), b_bit (by omega), decide_eq_true_eq, decide_eq_true_eq]; exact Or.inr rfl)) mF 0 (g_n (wQ' (y0.1 289) M s d) (16 * a), y) (Nat.lt_of_lt_of_le (show a < mF from Nat.lt_trans (show a < 16 by omega) (by decide)) (Nat.le_add_left _ _)) (Nat.zero_le _) ⟨rfl, h⟩
  exact z
theorem weak_y (y0 : mY) (hW : sW (y0.1 289) np) (hk : kq y0) (hs : bt (y0.1 289 0) s = true) (hs8 : s < 8) (hd : d < 8) (hM : sL (y0.1 289) M) : ∃ y1, f_X11_weak_L22 (nI s) (nI d) M mF 0 1 y0 = some (nI (g_n (wQ' (y0.1 289) M s d) 256), y1) ∧ wky y0 y1 := by
  have m16 := hW.2.2.1
  have e4 := hW.2.1
  have hb : ∀ l, bt M l = true → l < sm (y0.1 289) := fun l hl => ((hM l).mp hl).1
  have fin : ∀ c, g_n (wQ' (y0.1 289) M s d) (16 * sm (y0.1 289)) = c → g_n (wQ' (y0.1 289) M s d) 256 = c := fun c hc => by
    rw [← hc]
    refine g_n_flat (by omega) (fun i h1 h2 z => ?_)
    have := hb _ z.2.1
    omega
  have none : ∀ k, k ≤ 16 → g_n (wQ' (y0.1 289) M s d) k = 0 := fun k hk => g_n_zero k (fun c hc z => by have := z.1; omega)
  by_cases c0 : sm (y0.1 289) = 0
  · refine ⟨y0, ?_, yF_rf _ _, hk⟩
    rw [show mF = 99999 + 1 from rfl, f_X11_weak_L22, if_pos (show y0.1 289 4 ≤ 1 by rw [e4, c0]; decide), fin 0 (by rw [c0]; exact none _ (by decide))]
    rfl
  have z := lp_ok (sm (y0.1 289)) (fun n b (s' : Nat × mY) => f_X11_weak_L22 (nI s) (nI d) M n (nI s'.1) b s'.2) (fun a s' => s'.1 = g_n (wQ' (y0.1 289) M s d) (16 * a) ∧ wky y0 s'.2) (P := fun r => r.1 = nI (g_n (wQ' (y0.1 289) M s d) 256) ∧ wky y0 r.2) (by
    rintro n ⟨c, y1⟩ ⟨h1, h2⟩
    dsimp only at h1 h2
    show ∃ r, f_X11_weak_L22 (nI s) (nI d) M (n + 1) (nI c) (nI (sm (y0.1 289))) y1 = some r ∧ _
    have es : y1.1 289 = y0.1 289 := yF_row h2.1 (fun c => by unfold wk_Wy go_W kn_W gw_W; omega)
    rw [f_X11_weak_L22, if_pos (show y1.1 289 4 ≤ nI (sm (y0.1 289)) by rw [es, e4]; exact nI_le (Nat.le_refl _) (by omega))]
    exact ⟨_, rfl, by rw [fin c h1.symm], h2⟩) (by
    rintro n a ⟨c, y1⟩ ha ⟨h1, h2⟩ ih
    dsimp only at h1 h2
    show ∃ r, f_X11_weak_L22 (nI s) (nI d) M (n + 1) (nI c) (nI a) y1 = some r ∧ _
    have es : y1.1 289 = y0.1 289 := yF_row h2.1 (fun c => by unfold wk_Wy go_W kn_W gw_W; omega)
    rw [f_X11_weak_L22, if_neg (show ¬ y1.1 289 4 ≤ nI a by rw [es, e4]; exact nI_ge ha (by omega)), nI_1, h1]
    obtain ⟨y2, g1, g2⟩ := weak_L36 hW hs hs8 hd hM ha y1 h2 (fun v6 y7 => (f_X11_weak_L22 (nI s) (nI d) M n v6 (nI (a + 1)) y7))
    rw [g1]
    exact ih (g_n (wQ' (y0.1 289) M s d) (16 * a + 16), y2) ⟨congrArg (g_n (wQ' (y0.1 289) M s d)) (show 16 * a + 16 = 16 * (a + 1) by omega), g2⟩) mF 1 (0, y0) (Nat.lt_of_lt_of_le (show sm (y0.1 289) < mF from Nat.lt_of_le_of_lt m16 (by decide)) (Nat.le_add_left _ _)) (by omega) ⟨(none _ (by decide)).symm, yF_rf _ _, hk⟩
  obtain ⟨r, e, k1, k2⟩ := z
  refine ⟨r.2, ?_, k2⟩
  rw [← k1]
  exact e
theorem st_weak (h : IV np rt x y) : sam (f_X10_weak p1 p2 x) (f_X11_weak p1 p2 y) := by
  unfold f_X10_weak f_X11_weak
  have n8 := h.1.1.1
  obtain ⟨r, x1, e1, e2, i1, ⟨s, d, k, rfl, z8, ct⟩ | rfl⟩ := two_go h p1 p2
  · obtain ⟨s1, d1, rfl, rfl, sd, os, od⟩ := k
    obtain ⟨V, v1, v2⟩ := live_ok x1 i1.1.2 i1.1.1
    obtain ⟨V', v3, v4⟩ := netLinks_ok y h.1.1
    have eV := sL_un v4 v2
    subst eV
    obtain ⟨x2, f1, f2⟩ := weak_x (M := V') os (show s < 8 by omega) (show d < 8 by omega) v2 x1 ⟨i1, z8, ct⟩
    obtain ⟨y2, g1, g2, g3⟩ := weak_y (M := V') y h.1.1 h.2.2.2.2.2.2.2.1 os (show s < 8 by omega) (show d < 8 by omega) v2
    rw [e1, Option.bind_some, e2, Option.bind_some]
    dsimp only
    rw [if_neg (show ¬ (1 : Int32) = 0 by decide), if_neg (show ¬ (1 : Int32) = 0 by decide), v1, Option.bind_some, v3, Option.bind_some, f1, g1, wQ_eq]
    refine ⟨_, x2, y2, rfl, rfl, np, rt, IV_yk f2 g2 (fun q c z => ?_) g3⟩
    rcases z with z | z
    · exact gok q c z
    · unfold skY scY; omega
  · rw [e1, Option.bind_some, e2, Option.bind_some]
    exact ⟨_, x1, y, rfl, rfl, np, rt, i1⟩
end SO
