/-! ===== loads (2) ===== -/
section SK
variable {np rt s d : Nat} {x x' : mX} {y y' : mY} {p1 p2 p3 : Int32} {σ : Nat → Int32} {P L M dn : Int32}
def csn (σ : Nat → Int32) (np s d : Nat) : Prop := s < np ∧ d < np ∧ s ≠ d ∧ bt (σ 0) s = true ∧ bt (σ 0) d = true
/-- the loads of the first k pairs -/
def LR (σ : Nat → Int32) (M : Int32) (np : Nat) : Nat → (Nat → Int32) → Prop
  | 0, f => ∀ i, i < 16 → f i = 0
  | k + 1, f => ∃ g, LR σ M np k g ∧ ((∃ R, csn σ np (k / 8) (k % 8) ∧ tr σ (σ 2) (σ 3) M (k % 8) 20 0 (k / 8) [] (-2) R ∧ ∀ i, i < 16 → f i = ldj R.2.1 g R.2.1.length i) ∨ (¬ csn σ np (k / 8) (k % 8) ∧ ∀ i, i < 16 → f i = g i))
theorem LR_skip {k : Nat} {f : Nat → Int32} (h : LR σ M np k f) (hn : ¬ csn σ np (k / 8) (k % 8)) : LR σ M np (k + 1) f := ⟨f, h, Or.inr ⟨hn, fun _ _ => rfl⟩⟩
theorem LR_put {k s d : Nat} {f g : Nat → Int32} {R : Nat × List Nat × Int32} (h : LR σ M np k g) (h1 : k / 8 = s) (h2 : k % 8 = d) (hc : csn σ np s d) (ht : tr σ (σ 2) (σ 3) M d 20 0 s [] (-2) R) (hf : ∀ i, i < 16 → f i = ldj R.2.1 g R.2.1.length i) : LR σ M np (k + 1) f := ⟨g, h, Or.inl ⟨R, by rw [h1, h2]; exact hc, by rw [h1, h2]; exact ht, hf⟩⟩
theorem LR_far {k : Nat} {f : Nat → Int32} (h : LR σ M np k f) : ∀ n, (∀ j, k ≤ j → j < k + n → ¬ csn σ np (j / 8) (j % 8)) → LR σ M np (k + n) f
  | 0, _ => h
  | n + 1, hn => LR_skip (LR_far h n (fun j h1 h2 => hn j h1 (by omega))) (hn (k + n) (by omega) (by omega))
theorem LR_un (hN : s_N σ np (σ 2) (σ 3)) : ∀ k f f', LR σ M np k f → LR σ M np k f' → ∀ i, i < 16 → f i = f' i
  | 0, f, f', h, h', i, hi => by rw [h i hi, h' i hi]
  | k + 1, f, f', ⟨g, h1, h2⟩, ⟨g', h1', h2'⟩, i, hi => by
    have ih := LR_un hN k g g' h1 h1' i hi
    rcases h2 with ⟨R, a1, a2, a3⟩ | ⟨a1, a3⟩
    · rcases h2' with ⟨R', b1, b2, b3⟩ | ⟨b1, b3⟩
      · have e := tr_un hN _ _ _ _ _ _ _ a2 b2
        subst e
        rw [a3 i hi, b3 i hi, ldj_cg ih]
      · exact absurd a1 b1
    · rcases h2' with ⟨R', b1, b2, b3⟩ | ⟨b1, b3⟩
      · exact absurd b1 a1
      · rw [a3 i hi, b3 i hi, ih]
theorem ldj_0 {T : List Nat} {f : Nat → Int32} {i : Nat} : ∀ j, (∀ (k l : Nat), T[k]? = some l → l ≠ i) → ldj T f j i = f i
  | 0, _ => rfl
  | j + 1, h => by
    have ih := ldj_0 (T := T) (f := f) (i := i) j h
    cases e : T[j]? with
    | some l => rw [ldj_s e, if_neg (fun z => h j l e z.symm), ih]
    | none =>
      show (match T[j]? with
        | some l => fun i => if i = l then ldj T f j i + 1 else ldj T f j i
        | none => ldj T f j) i = _
      rw [e]
      exact ih
theorem LR_0 (hN : s_N σ np (σ 2) (σ 3)) : ∀ k f, LR σ M np k f → ∀ i, sm σ ≤ i → i < 16 → f i = 0
  | 0, f, h, i, _, hi => h i hi
  | k + 1, f, ⟨g, h1, h2⟩, i, hs, hi => by
    have ih := LR_0 hN k g h1 i hs hi
    rcases h2 with ⟨R, a1, a2, a3⟩ | ⟨a1, a3⟩
    · rw [a3 i hi, ldj_0 _ (fun k l hk => by have := (tr_14 hN a2).2 k l hk; omega), ih]
    · rw [a3 i hi, ih]
theorem LR_cg {k : Nat} {f g : Nat → Int32} (h : ∀ i, i < 16 → f i = g i) (k1 : LR σ M np k g) : LR σ M np k f := by
  cases k with
  | zero => exact fun i hi => (h i hi).trans (k1 i hi)
  | succ k =>
    obtain ⟨g', a1, a2⟩ := k1
    exact ⟨g', a1, a2.imp (fun ⟨R, b1, b2, b3⟩ => ⟨R, b1, b2, fun i hi => (h i hi).trans (b3 i hi)⟩) (fun ⟨b1, b3⟩ => ⟨b1, fun i hi => (h i hi).trans (b3 i hi)⟩)⟩
theorem fill_L39 {a : Nat} (ha : a < 8) (hM : sL (y.1 289) M) (x : mX) (h : IV np rt x y) (hl : LR (y.1 289) M np (8 * a) (x.1 253)) (kk : mX → Option (Int32 × mX)) : ∃ x1, f_X10_fillLoads_L39 M (nI a) mF 0 x kk = kk x1 ∧ IV np rt x1 y ∧ LR (y.1 289) M np (8 * a + 8) (x1.1 253) := by
  have n8 := h.1.1.1
  have z := lp_up 8 (fun n b (s : mX) => f_X10_fillLoads_L39 M (nI a) n b s kk) (fun d s => IV np rt s y ∧ LR (y.1 289) M np (8 * a + d) (s.1 253)) (fun o => ∃ x1, o = kk x1 ∧ IV np rt x1 y ∧ LR (y.1 289) M np (8 * a + 8) (x1.1 253)) (by
    rintro n s ⟨h1, h2⟩
    show ∃ x1, f_X10_fillLoads_L39 M (nI a) (n + 1) (nI 8) s kk = kk x1 ∧ _
    rw [f_X10_fillLoads_L39, if_pos (by decide)]
    exact ⟨s, rfl, h1, h2⟩) (by
    rintro n d s hd ⟨h1, h2⟩ ih
    show ∃ x1, f_X10_fillLoads_L39 M (nI a) (n + 1) (nI d) s kk = kk x1 ∧ _
    have e1 : (8 * a + d) / 8 = a := by omega
    have e2 : (8 * a + d) % 8 = d := by omega
    rw [f_X10_fillLoads_L39, if_neg (k8f hd), nI_1]
    obtain ⟨r, x1, g1, i1, k⟩ := canGo_iv h1 (nI a) (nI d)
    have fr := canGo_fr h1 g1
    have e253 : x1.1 253 = s.1 253 := eqX_row fr (fun c => by unfold lnX; omega)
    rw [g1, Option.bind_some]
    rcases k with ⟨a', d', k, rfl, z8, ct⟩ | ⟨no, rfl⟩
    · have ea : a = a' := (nI_eq (by omega) (by have := k.1; omega)).mp k.2.2.1
      have ed : d = d' := (nI_eq (by omega) (by have := k.2.1; omega)).mp k.2.2.2.1
      subst ea
      subst ed
      dsimp only
      rw [if_neg (show ¬ (1 : Int32) = 0 by decide)]
      have hN := sN_learnt h.1.1
      obtain ⟨R, x2, f1, f2, f3, f4, _⟩ := run_ok (M := M) hN hd ha x1 ct
      have l14 := tr_14 hN f2
      have m16 := h.1.1.2.2.1
      obtain ⟨x3, t1, t2, t3⟩ := tally_ok (r1 := 253) (by decide) (by decide) x2 f4 l14.1 (fun i l hi => by have := l14.2 i l hi; omega)
      rw [f1, Option.bind_some, t1, Option.bind_some]
      have e2' : x2.1 253 = x1.1 253 := xF_row f3 (fun c => by unfold tp_W; omega)
      refine ih x3 ⟨IV_xF (IV_xF i1 f3 (fun q c z => by unfold tp_W at z; unfold scX; omega)) t2 (fun q c z => by unfold scX; omega), ?_⟩
      exact LR_put (s := a) (d := d) h2 e1 e2 ⟨k.1, k.2.1, k.2.2.2.2⟩ f2 (fun i hi => by rw [t3 i, e2', e253])
    · dsimp only
      rw [if_pos rfl]
      refine ih x1 ⟨i1, ?_⟩
      rw [e253]
      refine LR_skip (k := 8 * a + d) h2 (show ¬ csn (y.1 289) np ((8 * a + d) / 8) ((8 * a + d) % 8) from ?_)
      rw [e1, e2]
      exact fun z => no a d ⟨z.1, z.2.1, rfl, rfl, z.2.2⟩) mF 0 x (Nat.lt_of_lt_of_le (show 8 < mF by decide) (Nat.le_add_left _ _)) (Nat.zero_le _) ⟨h, hl⟩
  exact z
theorem fill_L31 (hM : sL (y.1 289) M) (x : mX) (h : IV np rt x y) (hl : LR (y.1 289) M np 0 (x.1 253)) (kk : mX → Option (Int32 × mX)) : ∃ x1, f_X10_fillLoads_L31 M mF 0 x kk = kk x1 ∧ IV np rt x1 y ∧ LR (y.1 289) M np 64 (x1.1 253) := by
  have z := lp_up 8 (fun n b (s : mX) => f_X10_fillLoads_L31 M n b s kk) (fun a s => IV np rt s y ∧ LR (y.1 289) M np (8 * a) (s.1 253)) (fun o => ∃ x1, o = kk x1 ∧ IV np rt x1 y ∧ LR (y.1 289) M np 64 (x1.1 253)) (by
    rintro n s ⟨h1, h2⟩
    show ∃ x1, f_X10_fillLoads_L31 M (n + 1) (nI 8) s kk = kk x1 ∧ _
    rw [f_X10_fillLoads_L31, if_pos (by decide)]
    exact ⟨s, rfl, h1, h2⟩) (by
    rintro n a s ha ⟨h1, h2⟩ ih
    show ∃ x1, f_X10_fillLoads_L31 M (n + 1) (nI a) s kk = kk x1 ∧ _
    rw [f_X10_fillLoads_L31, if_neg (k8f ha), nI_1]
    obtain ⟨x1, g1, g2, g3⟩ := fill_L39 ha hM s h1 h2 (fun x7 => (f_X10_fillLoads_L31 M n (nI (a + 1)) x7 kk))
    rw [g1]
    exact ih x1 ⟨g2, by rw [show 8 * (a + 1) = 8 * a + 8 by omega]; exact g3⟩) mF 0 x (by decide) (by decide) ⟨h, hl⟩
  exact z
theorem fill_L10 (x : mX) (kk : mX → Option (Int32 × mX)) : ∃ x1, f_X10_fillLoads_L10 mF 0 x kk = kk x1 ∧ xF (fun q c => q = 253) x x1 ∧ ∀ i, i < 16 → x1.1 253 i = 0 := by
  have z := lp_up 16 (fun n b (s : mX) => f_X10_fillLoads_L10 n b s kk) (fun j s => xF (fun q c => q = 253) x s ∧ ∀ i, i < j → s.1 253 i = 0) (fun o => ∃ x1, o = kk x1 ∧ xF (fun q c => q = 253) x x1 ∧ ∀ i, i < 16 → x1.1 253 i = 0) (by
    rintro n s ⟨h1, h2⟩
    show ∃ x1, f_X10_fillLoads_L10 (n + 1) (nI 16) s kk = kk x1 ∧ _
    rw [f_X10_fillLoads_L10, if_pos (by decide)]
    exact ⟨s, rfl, h1, h2⟩) (by
    rintro n j s hj ⟨h1, h2⟩ ih
    show ∃ x1, f_X10_fillLoads_L10 (n + 1) (nI j) s kk = kk x1 ∧ _
    rw [f_X10_fillLoads_L10, if_neg (k16f hj), if_pos (in_ok hj (by decide)), cl (by omega), m_let, nI_1]
    refine ih _ ⟨xF_set h1 rfl, fun i hi => ?_⟩
    by_cases c : i = j
    · subst c; rw [xs_eq]
    · rw [xs_ec c]; exact h2 i (by omega)) mF 0 x (by decide) (by decide) ⟨xF_rf _ _, fun i hi => by omega⟩
  exact z
/-- the greatest of the first j -/
def mxl (f : Nat → Int32) : Nat → Int32
  | 0 => 0
  | j + 1 => if mxl f j < f j then f j else mxl f j
theorem mxl_0 (f : Nat → Int32) : ∀ j, 0 ≤ mxl f j
  | 0 => Int32.le_refl _
  | j + 1 => by
    have ih := mxl_0 f j
    show 0 ≤ if mxl f j < f j then f j else mxl f j
    by_cases c : mxl f j < f j
    · rw [if_pos c]; exact Int32.le_of_lt (Int32.lt_of_le_of_lt ih c)
    · rw [if_neg c]; exact ih
theorem mxl_far (f : Nat → Int32) {j : Nat} : ∀ n, (∀ i, j ≤ i → i < j + n → f i = 0) → mxl f (j + n) = mxl f j
  | 0, _ => rfl
  | n + 1, h => by
    have ih := mxl_far f n (fun i h1 h2 => h i h1 (by omega))
    show (if mxl f (j + n) < f (j + n) then f (j + n) else mxl f (j + n)) = _
    rw [h (j + n) (by omega) (by omega), ih, if_neg (Int32.not_lt.mpr (mxl_0 f j))]
theorem mxl_cg {f g : Nat → Int32} : ∀ j, (∀ i, i < j → f i = g i) → mxl f j = mxl g j
  | 0, _ => rfl
  | j + 1, h => by
    show (if mxl f j < f j then f j else mxl f j) = if mxl g j < g j then g j else mxl g j
    rw [mxl_cg j (fun i hi => h i (by omega)), h j (by omega)]
theorem fill_L95 (x : mX) : f_X10_fillLoads_L95 mF 0 0 x = some (mxl (x.1 253) 16, x) := by
  have z := lp_up 16 (fun n b (s : Int32) => f_X10_fillLoads_L95 n s b x) (fun j s => s = mxl (x.1 253) j) (fun o => o = some (mxl (x.1 253) 16, x)) (by
    intro n s hI
    show f_X10_fillLoads_L95 (n + 1) s (nI 16) x = _
    rw [f_X10_fillLoads_L95, if_pos (by decide), hI]) (by
    intro n j s hj hI ih
    show f_X10_fillLoads_L95 (n + 1) s (nI j) x = _
    rw [f_X10_fillLoads_L95, if_neg (k16f hj), if_pos (in_ok hj (by decide)), cl (by omega), nI_1]
    exact ih _ (by rw [hI]; rfl)) mF 0 0 (by decide) (by decide) rfl
  exact z
theorem fillLoads_ok (h : IV np rt x y) (hM : sL (y.1 289) M) : ∃ x1, f_X10_fillLoads x = some (mxl (x1.1 253) 16, x1) ∧ IV np rt x1 y ∧ LR (y.1 289) M np 64 (x1.1 253) := by
  unfold f_X10_fillLoads
  obtain ⟨V, v1, v2⟩ := live_ok x h.1.2 h.1.1
  rw [v1, Option.bind_some, sL_un v2 hM]
  obtain ⟨x1, g1, g2, g3⟩ := fill_L10 x (fun x3 => (f_X10_fillLoads_L31 M mF (0 : Int32) x3 (fun x8 => (f_X10_fillLoads_L95 mF (0 : Int32) (0 : Int32) x8))))
  rw [g1]
  obtain ⟨x2, f1, f2, f3⟩ := fill_L31 hM x1 (IV_xF h g2 (fun q c z => by unfold scX; omega)) g3 (fun x8 => (f_X10_fillLoads_L95 mF (0 : Int32) (0 : Int32) x8))
  rw [f1, fill_L95]
  exact ⟨x2, rfl, f2, f3⟩
end SK
