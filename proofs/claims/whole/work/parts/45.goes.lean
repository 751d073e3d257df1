/-! ===== the reference's goes ===== -/
section T3
variable {M dn : Int32} {np d : Nat}
/-- the links that live, but those that are down besides -/
def lv_M (σ : Nat → Int32) (dn M : Int32) : Prop := ∀ l, bt M l = true ↔ (l < sm σ ∧ bt (σ 1) l = true ∧ ∀ a b, a < 8 → b < 8 → sE σ l a b → bt (σ 0) a = true) ∧ ¬ bt dn l = true
theorem linkOfHop_ok {c v : Nat} (y : mY) (hW : sW (y.1 289) np) (hk : k_ok y.1) (hM : lv_M (y.1 289) dn M) (hd : d < 8) (hv : v < 8) (hvd : v ≠ d) (hc : c < 2) (hon : bt (y.1 289 0) v = true) : (∃ u l, tg (y.1 289) (y.1 289 2) (y.1 289 3) M d c v u l ∧ bt (y.1 289 0) u = true ∧ f_X11_linkOfHop (nI d) (nI v) (nI c) dn y = some (nI l)) ∨ ((∀ u l, ¬ tg (y.1 289) (y.1 289 2) (y.1 289 3) M d c v u l) ∧ f_X11_linkOfHop (nI d) (nI v) (nI c) dn y = some (-1)) := by
  have hN := sN_learnt hW
  unfold f_X11_linkOfHop
  rw [show (8 : Int32) * nI d = nI (8 * d) from pk_mul 8 d, nI_add, if_pos (in_ok (by omega) (by decide)), cl (by omega)]
  have e1 : (8 * d + v) / 8 = d := by omega
  have e2 : (8 * d + v) % 8 = v := by omega
  by_cases h0 : ∃ u, hp (sA (y.1 289) (y.1 289 3)) (bS (y.1 289 2)) c d v u
  · obtain ⟨u, hu⟩ := h0
    have a := hp_A hN.2.1 hu
    obtain ⟨h1, h2⟩ := hopOf_ok y hW hk hd hc hu
    obtain ⟨_, _, l, l1, l2, l3⟩ := a.1
    have hl := hN.2.2.1 l l2
    rw [if_neg h2, h1, Option.bind_some, between_at y hW hv a.2.2.2 hl l3, Option.bind_some]
    have only : ∀ u' l', tg (y.1 289) (y.1 289 2) (y.1 289 3) M d c v u' l' → bt M l = true := fun u' l' z => by
      have e := hp_un hN.2.1 z.1 hu
      subst e
      have e := s_un hN z.2.1 l2 a.2.2.1 a.2.2.2 z.2.2.1 l3
      subst e
      exact z.2.2.2
    have hb : ∀ i, bt ((y.1 289 1) &&& (dn ^^^ (-1 : Int32))) i = true ↔ bt (y.1 289 1) i = true ∧ ¬ bt dn i = true := fun i => by
      rw [b_wos, Bool.and_eq_true]; simp
    obtain ⟨p, q, hp, hq, hpq, f1, f2⟩ := hW.2.2.2.2.2.2.1 l hl
    have hn8 := hW.1
    have hon2 : (∀ a b, a < 8 → b < 8 → sE (y.1 289) l a b → bt (y.1 289 0) a = true) ↔ bt (y.1 289 0) u = true := by
      constructor
      · intro z
        exact z u v a.2.2.2 hv (sE_sy l3)
      · intro z a' b' ha' hb' he
        rcases (sE_iff (a := p) (b := q) (by omega) (by omega) ha' hb' f1 f2).mp he with ⟨r1, r2⟩ | ⟨r1, r2⟩ <;>
        rcases (sE_iff (a := p) (b := q) (by omega) (by omega) hv a.2.2.2 f1 f2).mp l3 with ⟨s1, s2⟩ | ⟨s1, s2⟩
        · rw [r1, ← s1]; exact hon
        · rw [r1, ← s2]; exact z
        · rw [r1, ← s2]; exact z
        · rw [r1, ← s1]; exact hon
    by_cases c1 : bt ((y.1 289 1) &&& (dn ^^^ (-1 : Int32))) l = true
    · rw [if_neg (h11t (by omega) c1), isOn_ok (by omega), Option.bind_some]
      by_cases c2 : bt (y.1 289 0) u = true
      · rw [if_pos c2, if_neg (by decide)]
        exact Or.inl ⟨u, l, ⟨hu, l2, l3, (hM l).mpr ⟨⟨hl, ((hb l).mp c1).1, hon2.mpr c2⟩, ((hb l).mp c1).2⟩⟩, c2, rfl⟩
      · rw [if_neg c2, if_pos rfl]
        exact Or.inr ⟨fun u' l' z => c2 (hon2.mp ((hM l).mp (only u' l' z)).1.2.2), rfl⟩
    · rw [if_pos (h11f (by omega) c1)]
      exact Or.inr ⟨fun u' l' z => c1 ((hb l).mpr ⟨((hM l).mp (only u' l' z)).1.2.1, ((hM l).mp (only u' l' z)).2⟩), rfl⟩
  · rcases hk (8 * d + v) (by omega) with ⟨n', p', t', f', rd', bl', k1, _⟩ | ⟨_, k2⟩
    · rw [e1, e2] at k1
      exact absurd ⟨_, n', p', t', f', rd', bl', k1, rfl⟩ h0
    · rw [if_pos k2]
      exact Or.inr ⟨fun u l z => h0 ⟨u, z.1⟩, rfl⟩
/-- the reference's trip stands -/
def tr_Y (y : mY) (T : List Nat) (tn : Int32) : Prop := y.1 279 54 = nI T.length ∧ y.1 279 55 = tn ∧ ∀ i l, T[i]? = some l → y.1 309 i = nI l
def gw_W (q c : Nat) : Prop := (q = 279 ∧ (c = 54 ∨ c = 55 ∨ c = 56)) ∨ q = 309
theorem k_ok_F {y y' : mY} (h : yF gw_W y y') (k : k_ok y.1) : k_ok y'.1 := by
  have q : ∀ q, q ≠ 279 → q ≠ 309 → y'.1 q = y.1 q := fun q h1 h2 => yF_row h (fun c z => by rcases z with z | z <;> omega)
  intro e he
  have := k e he
  unfold ky_e ky_g at this ⊢
  rw [q 289 (by decide) (by decide), q 296 (by decide) (by decide), q 297 (by decide) (by decide), q 298 (by decide) (by decide), q 299 (by decide) (by decide), q 300 (by decide) (by decide), q 301 (by decide) (by decide)]
  exact this
theorem gw_289 {y y' : mY} (h : yF gw_W y y') : y'.1 289 = y.1 289 := yF_row h (fun c z => by rcases z with z | z <;> omega)
/-- one hop of the reference -/
theorem goes_move {v u l n : Nat} (c : Int32) (y : mY) (hl : l < 16) (hv : v < 8) (hu : u < 8) (huv : v ≠ u) (he : sE (y.1 289) l v u) {T : List Nat} {tn : Int32} (hT : T.length < 32) (hy : tr_Y y T tn) : ∃ y', tr_Y y' (T ++ [l]) tn ∧ yF gw_W y y' ∧ (if 0 ≤ nI l then (if m_in (y.1 279 54) 32 = true then (m_let (m_ys y 309 (y.1 279 54).toNatClampNeg (nI l)) fun y10 => (m_let (m_ys y10 279 54 ((y10.1 279 54) + (1 : Int32))) fun y11 => (if m_in ((8 : Int32) + nI l) 72 = true then (if (y11.1 289 ((8 : Int32) + nI l).toNatClampNeg) = nI v then (if m_in ((24 : Int32) + nI l) 72 = true then (f_X11_goes_L21 (nI d) dn n (y11.1 289 ((24 : Int32) + nI l).toNatClampNeg) c y11) else none) else (if m_in ((8 : Int32) + nI l) 72 = true then (f_X11_goes_L21 (nI d) dn n (y11.1 289 ((8 : Int32) + nI l).toNatClampNeg) c y11) else none)) else none))) else none) else (m_let (m_ys y 279 56 (nI v)) fun y12 => (some ((0 : Int32), y12)))) = f_X11_goes_L21 (nI d) dn n (nI u) c y' := by
  obtain ⟨y1, y2, y3⟩ := hy
  rw [if_pos (nI_pos' (by omega)), y1, if_pos (in_ok hT (by decide)), cl (by omega), m_let, ys_ne (by decide), y1, m_let, nI_1, a8, a24, if_pos (in_ok (by omega) (by decide)), cl (by omega), cl (by omega)]
  refine ⟨m_ys (m_ys y 309 T.length (nI l)) 279 54 (nI (T.length + 1)), ⟨?_, ?_, fun i k hi => ?_⟩, yF_set (yF_set (yF_rf _ _) (Or.inr rfl)) (Or.inl ⟨rfl, Or.inl rfl⟩), ?_⟩
  · rw [ys_eq, List.length_append]; rfl
  · rw [ys_ec (by decide), ys_ne (by decide), y2]
  · rw [ys_ne (by decide), ys_at]
    rcases app_get hi with z | ⟨z1, z2⟩
    · rw [if_neg (by have := get_lt z; omega)]
      exact y3 i k z
    · rw [if_pos z1, z2]
  · have e289 : (m_ys (m_ys y 309 T.length (nI l)) 279 54 (nI (T.length + 1))).1 289 = y.1 289 := by rw [ys_ne (by decide), ys_ne (by decide)]
    rw [e289]
    rcases he with ⟨h1, h2⟩ | ⟨h1, h2⟩
    · rw [h1, if_pos rfl, if_pos (in_ok (by omega) (by decide)), h2]
    · rw [h1, if_neg (fun z => huv ((nI_eq (by omega) (by omega)).mp z).symm), if_pos (in_ok (by omega) (by decide))]
/-- what goes answers -/
def go_A (σ : Nat → Int32) (M : Int32) (d m c v : Nat) (T : List Nat) (tn : Int32) (y : mY) (o : Option (Int32 × mY)) : Prop := ∃ R y' w, o = some (w, y') ∧ tr σ (σ 2) (σ 3) M d m c v T tn R ∧ yF gw_W y y' ∧ tr_Y y' R.2.1 R.2.2 ∧ y'.1 279 56 = nI R.1 ∧ ((R.1 = d ∧ w = 1) ∨ (R.1 ≠ d ∧ w = 0))
theorem go_end {σ : Nat → Int32} {m c v : Nat} {T : List Nat} {tn : Int32} {y y2 : mY} {w : Int32} (hF : yF gw_W y y2) (hy : tr_Y y2 T tn) (hr : tr σ (σ 2) (σ 3) M d m c v T tn (v, T, tn)) (hw : (v = d ∧ w = 1) ∨ (v ≠ d ∧ w = 0)) : go_A σ M d m c v T tn y (some (w, m_ys y2 279 56 (nI v))) := by
  refine ⟨(v, T, tn), _, w, rfl, hr, yF_set hF (Or.inl ⟨rfl, Or.inr (Or.inr rfl)⟩), ⟨?_, ?_, fun i l hi => ?_⟩, ys_eq _ _ _ _, hw⟩
  · rw [ys_ec (by decide)]; exact hy.1
  · rw [ys_ec (by decide)]; exact hy.2.1
  · rw [ys_ne (by decide)]; exact hy.2.2 i l hi
theorem goes_b (σ : Nat → Int32) (hd : d < 8) : ∀ e v n m (T : List Nat) (tn : Int32) (y : mY), y.1 289 = σ → sW σ np → k_ok y.1 → lv_M σ dn M → tb_d σ (σ 2) (σ 3) d 1 v e → v < 8 → bt (σ 0) v = true → T.length + e ≤ 20 → e < n → e < m → tr_Y y T tn → go_A σ M d m 1 v T tn y (f_X11_goes_L21 (nI d) dn n (nI v) 1 y) := by
  intro e
  induction e with
  | zero =>
    intro v n m T tn y hσ hW hk hM he hv hon hT hn hm hy
    cases n with
    | zero => omega
    | succ n =>
      cases m with
      | zero => omega
      | succ m =>
        rw [f_X11_goes_L21]
        by_cases hvd : v = d
        · rw [if_pos (by rw [hvd]), m_let]
          rw [← hvd]
          exact go_end (d := v) (yF_rf _ _) hy (Or.inl ⟨rfl, rfl⟩) (Or.inl ⟨rfl, rfl⟩)
        · have hN := sN_learnt hW
          subst hσ
          rw [if_neg (fun z => hvd ((nI_eq (by omega) (by omega)).mp z))]
          rcases linkOfHop_ok (c := 1) y hW hk hM hd hv hvd (by decide) hon with ⟨u, l, g1, _⟩ | ⟨g1, g2⟩
          · obtain ⟨e', h', _⟩ := tb_d_go hN he g1.1
            omega
          · rw [show nI 1 = (1 : Int32) from rfl] at g2
            rw [g2, Option.bind_some, m_jn, if_neg (by decide), if_neg (by decide)]
            dsimp only
            rw [if_neg (by decide), m_let]
            exact go_end (yF_rf _ _) hy (Or.inr ⟨hvd, Or.inr ⟨g1, Or.inr ⟨by decide, rfl⟩⟩⟩) (Or.inr ⟨hvd, rfl⟩)
  | succ e ih =>
    intro v n m T tn y hσ hW hk hM he hv hon hT hn hm hy
    have hN := sN_learnt hW
    cases n with
    | zero => omega
    | succ n =>
      cases m with
      | zero => omega
      | succ m =>
        have hvd : v ≠ d := by
          rcases he with ⟨u, h, _⟩ | ⟨h, _⟩
          · exact (hp_A hN.2.1 h).2.1
          · omega
        subst hσ
        rw [f_X11_goes_L21, if_neg (fun z => hvd ((nI_eq (by omega) (by omega)).mp z))]
        rcases linkOfHop_ok (c := 1) y hW hk hM hd hv hvd (by decide) hon with ⟨u, l, g1, g0, g2⟩ | ⟨g1, g2⟩
        · obtain ⟨e', h1, h2⟩ := tb_d_go hN he g1.1
          have h1 : e = e' := by omega
          subst h1
          have a := hp_A hN.2.1 g1.1
          have hl16 : l < 16 := Nat.lt_of_lt_of_le (hN.2.2.1 l g1.2.1) hN.1.2.2.1
          rw [show nI 1 = (1 : Int32) from rfl] at g2
          rw [g2, Option.bind_some, m_jn, if_pos (nI_pos' (by omega))]
          dsimp only
          obtain ⟨y', k1, k2, k3⟩ := goes_move (d := d) (dn := dn) (n := n) 1 y hl16 hv a.2.2.2 (hN.2.1.2.1 _ _ a.1).2.2 g1.2.2.1 (by omega) hy
          rw [k3]
          obtain ⟨R, y'', w, r1, r2, r3, r4, r5, r6⟩ := ih u n m (T ++ [l]) tn y' (gw_289 k2) hW (k_ok_F k2 hk) hM h2 a.2.2.2 g0 (by rw [List.length_append]; simp; omega) (by omega) (by omega) k1
          exact ⟨R, y'', w, r1, Or.inr ⟨hvd, Or.inl ⟨u, l, g1, r2⟩⟩, yF_tr k2 r3, r4, r5, r6⟩
        · rw [show nI 1 = (1 : Int32) from rfl] at g2
          rw [g2, Option.bind_some, m_jn, if_neg (by decide), if_neg (by decide)]
          dsimp only
          rw [if_neg (by decide), m_let]
          exact go_end (yF_rf _ _) hy (Or.inr ⟨hvd, Or.inr ⟨g1, Or.inr ⟨by decide, rfl⟩⟩⟩) (Or.inr ⟨hvd, rfl⟩)
theorem goes_r (σ : Nat → Int32) (hd : d < 8) : ∀ e v n m (T : List Nat) (tn : Int32) (y : mY), y.1 289 = σ → sW σ np → k_ok y.1 → lv_M σ dn M → tb_d σ (σ 2) (σ 3) d 0 v e → v < 8 → bt (σ 0) v = true → T.length + e ≤ 7 → e + 9 < n → e + 9 < m → tr_Y y T tn → go_A σ M d m 0 v T tn y (f_X11_goes_L21 (nI d) dn n (nI v) 0 y) := by
  have turn : ∀ v n m (T : List Nat) (tn : Int32) (y : mY), y.1 289 = σ → sW σ np → k_ok y.1 → lv_M σ dn M → v ≠ d → v < 8 → bt (σ 0) v = true → T.length ≤ 7 → 8 < n → 8 < m → tr_Y y T tn → (∀ u l, ¬ tg σ (σ 2) (σ 3) M d 0 v u l) → f_X11_linkOfHop (nI d) (nI v) (nI 0) dn y = some (-1) → go_A σ M d (m + 1) 0 v T tn y (f_X11_goes_L21 (nI d) dn (n + 1) (nI v) (nI 0) y) := by
    intro v n m T tn y hσ hW hk hM hvd hv hon hT hn hm hy hno hlk
    have hN := sN_learnt hW
    have F1 : yF gw_W y (m_ys y 279 55 (nI v)) := yF_set (yF_rf _ _) (Or.inl ⟨rfl, Or.inr (Or.inl rfl)⟩)
    have hy1 : tr_Y (m_ys y 279 55 (nI v)) T (nI v) := by
      refine ⟨?_, ys_eq _ _ _ _, fun i l hi => ?_⟩
      · rw [ys_ec (by decide)]; exact hy.1
      · rw [ys_ne (by decide)]; exact hy.2.2 i l hi
    have hσ1 : (m_ys y 279 55 (nI v)).1 289 = σ := (gw_289 F1).trans hσ
    rw [f_X11_goes_L21, if_neg (fun z => hvd ((nI_eq (by omega) (by omega)).mp z)), hlk, Option.bind_some, m_jn, if_neg (by decide), if_pos (by decide), m_let]
    have step := linkOfHop_ok (np := np) (c := 1) (d := d) (dn := dn) (M := M) (m_ys y 279 55 (nI v)) (by rw [hσ1]; exact hW) (k_ok_F F1 hk) (by rw [hσ1]; exact hM) hd hv hvd (by decide) (by rw [hσ1]; exact hon)
    rw [hσ1] at step
    rcases step with ⟨u, l, g1, g0, g2⟩ | ⟨g1, g2⟩
    · have a := hp_A hN.2.1 g1.1
      have hl16 : l < 16 := Nat.lt_of_lt_of_le (hN.2.2.1 l g1.2.1) hN.1.2.2.1
      obtain ⟨e, e1, e2⟩ := tb_d_ex (d := d) hN 1 v
      obtain ⟨e', h1, h2⟩ := tb_d_go hN e2 g1.1
      rw [show nI 1 = (1 : Int32) from rfl] at g2
      rw [g2, Option.bind_some]
      dsimp only
      obtain ⟨y', k1, k2, k3⟩ := goes_move (d := d) (dn := dn) (n := n) 1 (m_ys y 279 55 (nI v)) hl16 hv a.2.2.2 (hN.2.1.2.1 _ _ a.1).2.2 (by rw [hσ1]; exact g1.2.2.1) (by omega) hy1
      rw [k3]
      cases m with
      | zero => omega
      | succ m =>
        obtain ⟨R, y'', w, r1, r2, r3, r4, r5, r6⟩ := goes_b (np := np) (dn := dn) σ hd e' u n m (T ++ [l]) (nI v) y' ((gw_289 k2).trans hσ1) hW (k_ok_F k2 (k_ok_F F1 hk)) hM h2 a.2.2.2 g0 (by rw [List.length_append]; simp; omega) (by omega) (by omega) k1
        exact ⟨R, y'', w, r1, Or.inr ⟨hvd, Or.inr ⟨hno, Or.inl ⟨rfl, Or.inr ⟨hvd, Or.inl ⟨u, l, g1, r2⟩⟩⟩⟩⟩, yF_tr F1 (yF_tr k2 r3), r4, r5, r6⟩
    · rw [show nI 1 = (1 : Int32) from rfl] at g2
      rw [g2, Option.bind_some]
      dsimp only
      rw [if_neg (by decide), m_let]
      cases m with
      | zero => omega
      | succ m =>
        obtain ⟨R, y', w, r1, r2, r3, r4, r5, r6⟩ := go_end (σ := σ) (M := M) (d := d) (m := m + 1) (c := 1) (w := 0) F1 hy1 (Or.inr ⟨hvd, Or.inr ⟨g1, Or.inr ⟨by decide, rfl⟩⟩⟩) (Or.inr ⟨hvd, rfl⟩)
        exact ⟨R, y', w, r1, Or.inr ⟨hvd, Or.inr ⟨hno, Or.inl ⟨rfl, r2⟩⟩⟩, r3, r4, r5, r6⟩
  intro e
  induction e with
  | zero =>
    intro v n m T tn y hσ hW hk hM he hv hon hT hn hm hy
    cases n with
    | zero => omega
    | succ n =>
      cases m with
      | zero => omega
      | succ m =>
        by_cases hvd : v = d
        · rw [f_X11_goes_L21, if_pos (by rw [hvd]), m_let]
          rw [← hvd]
          exact go_end (d := v) (yF_rf _ _) hy (Or.inl ⟨rfl, rfl⟩) (Or.inl ⟨rfl, rfl⟩)
        · have hN := sN_learnt hW
          have step := linkOfHop_ok (np := np) (c := 0) (d := d) (dn := dn) (M := M) y (by rw [hσ]; exact hW) hk (by rw [hσ]; exact hM) hd hv hvd (by decide) (by rw [hσ]; exact hon)
          rw [hσ] at step
          rcases step with ⟨u, l, g1, _⟩ | ⟨g1, g2⟩
          · obtain ⟨e', h', _⟩ := tb_d_go hN he g1.1
            omega
          · exact turn v n m T tn y hσ hW hk hM hvd hv hon (by omega) (by omega) (by omega) hy g1 g2
  | succ e ih =>
    intro v n m T tn y hσ hW hk hM he hv hon hT hn hm hy
    have hN := sN_learnt hW
    cases n with
    | zero => omega
    | succ n =>
      cases m with
      | zero => omega
      | succ m =>
        have hvd : v ≠ d := by
          rcases he with ⟨u, h, _⟩ | ⟨h, _⟩
          · exact (hp_A hN.2.1 h).2.1
          · omega
        have step := linkOfHop_ok (np := np) (c := 0) (d := d) (dn := dn) (M := M) y (by rw [hσ]; exact hW) hk (by rw [hσ]; exact hM) hd hv hvd (by decide) (by rw [hσ]; exact hon)
        rw [hσ] at step
        rcases step with ⟨u, l, g1, g0, g2⟩ | ⟨g1, g2⟩
        · obtain ⟨e', h1, h2⟩ := tb_d_go hN he g1.1
          have h1 : e = e' := by omega
          subst h1
          have a := hp_A hN.2.1 g1.1
          have hl16 : l < 16 := Nat.lt_of_lt_of_le (hN.2.2.1 l g1.2.1) hN.1.2.2.1
          rw [show nI 0 = (0 : Int32) from rfl] at g2
          rw [f_X11_goes_L21, if_neg (fun z => hvd ((nI_eq (by omega) (by omega)).mp z)), g2, Option.bind_some, m_jn, if_pos (nI_pos' (by omega))]
          dsimp only
          obtain ⟨y', k1, k2, k3⟩ := goes_move (d := d) (dn := dn) (n := n) 0 y hl16 hv a.2.2.2 (hN.2.1.2.1 _ _ a.1).2.2 (by rw [hσ]; exact g1.2.2.1) (by omega) hy
          rw [k3]
          obtain ⟨R, y'', w, r1, r2, r3, r4, r5, r6⟩ := ih u n m (T ++ [l]) tn y' ((gw_289 k2).trans hσ) hW (k_ok_F k2 hk) hM h2 a.2.2.2 g0 (by rw [List.length_append]; simp; omega) (by omega) (by omega) k1
          exact ⟨R, y'', w, r1, Or.inr ⟨hvd, Or.inl ⟨u, l, g1, r2⟩⟩, yF_tr k2 r3, r4, r5, r6⟩
        · exact turn v n m T tn y hσ hW hk hM hvd hv hon (by omega) (by omega) (by omega) hy g1 g2
def go_W (q c : Nat) : Prop := kn_W q c ∨ gw_W q c
theorem goes_ok {s : Nat} (y : mY) (hW : sW (y.1 289) np) (hk : kq y) (hM : lv_M (y.1 289) dn M) (hd : d < 8) (hs : s < 8) (hon : bt (y.1 289 0) s = true) : ∃ R y' w, f_X11_goes (nI s) (nI d) dn y = some (w, y') ∧ tr (y.1 289) (y.1 289 2) (y.1 289 3) M d 20 0 s [] (-2) R ∧ yF go_W y y' ∧ kq y' ∧ tr_Y y' R.2.1 R.2.2 ∧ y'.1 279 56 = nI R.1 ∧ ((R.1 = d ∧ w = 1) ∨ (R.1 ≠ d ∧ w = 0)) := by
  unfold f_X11_goes
  obtain ⟨y1, k1, k2, k3, k4⟩ := knows_ok y hW hk
  rw [k1, Option.bind_some, m_let, m_let]
  have eσ : y1.1 289 = y.1 289 := yF_row k2 (fun c z => by rcases z with z | z <;> omega)
  have F1 : yF gw_W y1 (m_ys (m_ys y1 279 54 0) 279 55 (-2)) := yF_set (yF_set (yF_rf _ _) (Or.inl ⟨rfl, Or.inl rfl⟩)) (Or.inl ⟨rfl, Or.inr (Or.inl rfl)⟩)
  have hN := sN_learnt hW
  obtain ⟨e, e1, e2⟩ := tb_d_ex (d := d) hN 0 s
  have hm : 20 < mF := by decide
  obtain ⟨R, y', w, r1, r2, r3, r4, r5, r6⟩ := goes_r (np := np) (dn := dn) (M := M) (y.1 289) hd e s mF 20 [] (-2) (m_ys (m_ys y1 279 54 0) 279 55 (-2)) ((gw_289 F1).trans eσ) hW (k_ok_F F1 k3) hM e2 hs hon (by simp; omega) (by omega) (by omega) ⟨by rw [ys_ec (by decide), ys_eq]; rfl, ys_eq _ _ _ _, fun i l hi => by cases hi⟩
  exact ⟨R, y', w, r1, r2, yF_tr (yF_mo k2 (fun _ _ z => Or.inl z)) (yF_mo (yF_tr F1 r3) (fun _ _ z => Or.inr z)), fun _ => k_ok_F r3 (k_ok_F F1 k3), r4, r5, r6⟩
end T3
