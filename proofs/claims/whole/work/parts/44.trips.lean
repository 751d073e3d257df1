/-! ===== trips ===== -/
section T2
variable {σ : Nat → Int32} {P L M : Int32} {np d : Nat}
/-- data can go from v to u over l -/
def tg (σ : Nat → Int32) (P L M : Int32) (d c v u l : Nat) : Prop := hp (sA σ L) (bS P) c d v u ∧ bt L l = true ∧ sE σ l v u ∧ bt M l = true
/-- a trip: where it ends, over which links, where it turned -/
def tr (σ : Nat → Int32) (P L M : Int32) (d : Nat) : Nat → Nat → Nat → List Nat → Int32 → Nat × List Nat × Int32 → Prop
  | 0, _, _, _, _, _ => False
  | n + 1, c, v, T, tn, R => (v = d ∧ R = (v, T, tn)) ∨ (v ≠ d ∧ ((∃ u l, tg σ P L M d c v u l ∧ tr σ P L M d n c u (T ++ [l]) tn R) ∨ ((∀ u l, ¬ tg σ P L M d c v u l) ∧ ((c = 0 ∧ tr σ P L M d n 1 v T (nI v) R) ∨ (c ≠ 0 ∧ R = (v, T, tn))))))
theorem tg_un (hN : s_N σ np P L) {c v u l u' l' : Nat} (h : tg σ P L M d c v u l) (h' : tg σ P L M d c v u' l') : u = u' ∧ l = l' := by
  have e := hp_un hN.2.1 h.1 h'.1
  subst e
  have a := hp_A hN.2.1 h.1
  exact ⟨rfl, s_un hN h.2.1 h'.2.1 a.2.2.1 a.2.2.2 h.2.2.1 h'.2.2.1⟩
theorem tr_un (hN : s_N σ np P L) : ∀ n c v T tn R R', tr σ P L M d n c v T tn R → tr σ P L M d n c v T tn R' → R = R'
  | 0, _, _, _, _, _, _, h, _ => h.elim
  | n + 1, c, v, T, tn, R, R', h, h' => by
    rcases h with ⟨a1, a2⟩ | ⟨a1, ⟨u, l, a2, a3⟩ | ⟨a2, ⟨a3, a4⟩ | ⟨a3, a4⟩⟩⟩
    · rcases h' with ⟨b1, b2⟩ | ⟨b1, _⟩
      · rw [a2, b2]
      · exact absurd a1 b1
    · rcases h' with ⟨b1, b2⟩ | ⟨b1, ⟨u', l', b2, b3⟩ | ⟨b2, _⟩⟩
      · exact absurd b1 a1
      · obtain ⟨e1, e2⟩ := tg_un hN b2 a2
        subst e1
        subst e2
        exact tr_un hN n _ _ _ _ _ _ a3 b3
      · exact absurd a2 (b2 u l)
    · rcases h' with ⟨b1, b2⟩ | ⟨b1, ⟨u', l', b2, b3⟩ | ⟨b2, ⟨b3, b4⟩ | ⟨b3, b4⟩⟩⟩
      · exact absurd b1 a1
      · exact absurd b2 (a2 u' l')
      · exact tr_un hN n _ _ _ _ _ _ a4 b4
      · exact absurd a3 b3
    · rcases h' with ⟨b1, b2⟩ | ⟨b1, ⟨u', l', b2, b3⟩ | ⟨b2, ⟨b3, b4⟩ | ⟨b3, b4⟩⟩⟩
      · exact absurd b1 a1
      · exact absurd b2 (a2 u' l')
      · exact absurd b3 a3
      · rw [a4, b4]
/-- the class's trip stands -/
def tr_X (x : mX) (v : Nat) (T : List Nat) (tn : Int32) : Prop := x.1 251 1 = nI T.length ∧ x.1 251 2 = tn ∧ x.1 251 3 = nI v ∧ ∀ i l, T[i]? = some l → x.1 252 i = nI l
def tp_W (q c : Nat) : Prop := q = 251 ∨ q = 252
theorem ct_r_251 {x x' : mX} {r : Nat} (h : xF tp_W x x') (k : ct_r x.1 σ P L r) : ct_r x'.1 σ P L r := by
  have q : ∀ q, q ≠ 251 → q ≠ 252 → x'.1 q = x.1 q := fun q h1 h2 => xF_row h (fun c z => by rcases z with z | z <;> omega)
  intro v hv
  have e : ct_e x.1 x'.1 r v := ⟨by rw [q 236 (by decide) (by decide)], by rw [q 237 (by decide) (by decide)], by rw [q 238 (by decide) (by decide)], by rw [q 238 (by decide) (by decide)], by rw [q 239 (by decide) (by decide)], by rw [q 239 (by decide) (by decide)]⟩
  rcases k v hv with k | ⟨k1, k2⟩
  · exact Or.inl (ct_e_g e k)
  · exact Or.inr ⟨k1, ct_e_0 e k2⟩
theorem app_get {T : List Nat} {l i k : Nat} (h : (T ++ [l])[i]? = some k) : (T[i]? = some k) ∨ (i = T.length ∧ k = l) := by
  by_cases c : i < T.length
  · rw [List.getElem?_append_left c] at h
    exact Or.inl h
  · rw [List.getElem?_append_right (by omega)] at h
    by_cases e : i - T.length = 0
    · rw [e] at h
      simp at h
      exact Or.inr ⟨by omega, h.symm⟩
    · rw [List.getElem?_eq_none (by simp; omega)] at h
      cases h
theorem get_lt {T : List Nat} {i k : Nat} (h : T[i]? = some k) : i < T.length := by
  refine Classical.byContradiction fun c => ?_
  rw [List.getElem?_eq_none (by omega)] at h
  cases h
theorem run_step (hN : s_N σ np P L) (hd : d < 8) {c v k : Nat} (hc : c < 2) (hv : v < 8) (hvd : v ≠ d) (hk : k ≤ 16) {T : List Nat} {tn : Int32} (hT : T.length < 16) (x : mX) (ht : ct_r x.1 σ P L d) (hx : tr_X x v T tn) (n : Nat) (kk : mX → Option mX) : (∃ u l x', tg σ P L M d c v u l ∧ tr_X x' u (T ++ [l]) tn ∧ xF tp_W x x' ∧ f_X8_run_L22 (nI d) M (n + 1) (nI c) (nI k) x kk = f_X8_run_L22 (nI d) M n (nI c) (nI (k + 1)) x' kk) ∨ ((∀ u l, ¬ tg σ P L M d c v u l) ∧ f_X8_run_L22 (nI d) M (n + 1) (nI c) (nI k) x kk = if nI c = 0 then f_X8_run_L22 (nI d) M n 1 (nI (k + 1)) (m_xs x 251 2 (nI v)) kk else kk x) := by
  obtain ⟨x1, x2, x3, x4⟩ := hx
  rw [f_X8_run_L22, if_neg (show ¬ (16 : Int32) < nI k from nI_nlt (b := k) (a := 16) (by omega) (by omega)), x3, if_neg (fun z => hvd ((nI_eq (by omega) (by omega)).mp z)), linkAt_ok hd hv hc, Option.bind_some, m_jn, nI_1]
  dsimp only
  have stop : (∀ u l, ¬ tg σ P L M d c v u l) → ∀ o : Option mX, o = (if nI c = 0 then m_let (m_xs x 251 2 (x.1 251 3)) fun x7 => f_X8_run_L22 (nI d) M n 1 (nI (k + 1)) x7 kk else kk x) → o = if nI c = 0 then f_X8_run_L22 (nI d) M n 1 (nI (k + 1)) (m_xs x 251 2 (nI v)) kk else kk x := by
    intro _ o ho
    rw [ho, x3, m_let]
  by_cases hp0 : ∃ u, hp (sA σ L) (bS P) c d v u
  · obtain ⟨u, hu⟩ := hp0
    have a := hp_A hN.2.1 hu
    obtain ⟨e1, l, l1, l2, l3⟩ := ct_hop hN hd ht hc hu
    have hl16 : l < 16 := Nat.lt_of_lt_of_le (hN.2.2.1 l l1) hN.1.2.2.1
    rw [l3, if_neg (nI_m1 (by omega))]
    by_cases cM : bt M l = true
    · rw [if_neg (h10t (by omega) cM), x1, if_neg (k16f hT), if_pos (in_ok hT (by decide)), cl (by omega), m_let, xs_ne (by decide), x1, m_let, nI_1, xs_ec (by decide), xs_ne (by decide), x3, next_ok hd hv hc, Option.bind_some, m_let, xs_ne (by decide), xs_ne (by decide), e1]
      refine Or.inl ⟨u, l, _, ⟨hu, l1, l2, cM⟩, ⟨?_, ?_, xs_eq _ _ _ _, fun i k' hi => ?_⟩, xF_set (xF_set (xF_set (xF_rf _ _) (Or.inr rfl)) (Or.inl rfl)) (Or.inl rfl), rfl⟩
      · rw [xs_ec (by decide), xs_eq, List.length_append]; rfl
      · rw [xs_ec (by decide), xs_ec (by decide), xs_ne (by decide), x2]
      · rw [xs_ne (by decide), xs_ne (by decide), xs_at]
        rcases app_get hi with z | ⟨z1, z2⟩
        · rw [if_neg (by have := get_lt z; omega)]
          exact x4 i k' z
        · rw [if_pos z1, z2]
    · rw [if_pos (h10f (by omega) cM)]
      have hno : ∀ u' l', ¬ tg σ P L M d c v u' l' := fun u' l' z => by
        have e := hp_un hN.2.1 z.1 hu
        subst e
        have e := s_un hN z.2.1 l1 a.2.2.1 a.2.2.2 z.2.2.1 l2
        subst e
        exact cM z.2.2.2
      exact Or.inr ⟨hno, stop hno _ rfl⟩
  · have hno : ∀ u l, ¬ tg σ P L M d c v u l := fun u l z => hp0 ⟨u, z.1⟩
    rcases ht v hv with ⟨n', p', t', f', rd', bl', k1, k2⟩ | ⟨k1, k2⟩
    · exact absurd ⟨_, n', p', t', f', rd', bl', k1, rfl⟩ hp0
    · have e : x.1 239 (c * 64 + (d * 8 + v)) = -1 := by
        by_cases c0 : c = 0
        · subst c0; exact k2.2.2.2.1
        · have : c = 1 := by omega
          subst this; exact k2.2.2.2.2
      rw [e, if_pos rfl]
      exact Or.inr ⟨hno, stop hno _ rfl⟩
/-- how many hops at most are left -/
def tb_d (σ : Nat → Int32) (P L : Int32) (d c v e : Nat) : Prop := wy (sA σ L) (bS P) c d e v ∨ (e = 0 ∧ ∀ u, ¬ hp (sA σ L) (bS P) c d v u)
theorem tb_d_ex (hN : s_N σ np P L) (c v : Nat) : ∃ e, e ≤ 7 ∧ tb_d σ P L d c v e := by
  by_cases h : ∃ u, hp (sA σ L) (bS P) c d v u
  · obtain ⟨u, n, p, t, f, rd, bl, h1, h2⟩ := h
    obtain ⟨e, he⟩ := wy_ex (c := c) hN.2.1 h1.1
    exact ⟨e, wy_le hN.2.1 he, Or.inl he⟩
  · exact ⟨0, by omega, Or.inr ⟨rfl, fun u hu => h ⟨u, hu⟩⟩⟩
theorem tb_d_go (hN : s_N σ np P L) {c v u e : Nat} (h : tb_d σ P L d c v e) (hu : hp (sA σ L) (bS P) c d v u) : ∃ e', e = e' + 1 ∧ tb_d σ P L d c u e' := by
  rcases h with h | ⟨_, h⟩
  · cases e with
    | zero => exact absurd h.1 (hp_A hN.2.1 hu).2.1
    | succ e =>
      obtain ⟨u', k1, k2⟩ := h
      rw [hp_un hN.2.1 k1 hu] at k2
      exact ⟨e, rfl, Or.inl k2⟩
  · exact absurd hu (h u)
theorem run_b (hN : s_N σ np P L) (hd : d < 8) {Q : Option mX → Prop} (kk : mX → Option mX) : ∀ e v k n m (T : List Nat) (tn : Int32) (x : mX), tb_d σ P L d 1 v e → v < 8 → T.length + e ≤ 15 → k + e ≤ 16 → e < n → e < m → ct_r x.1 σ P L d → tr_X x v T tn → (∀ x' R, tr σ P L M d m 1 v T tn R → xF tp_W x x' → tr_X x' R.1 R.2.1 R.2.2 → Q (kk x')) → Q (f_X8_run_L22 (nI d) M n 1 (nI k) x kk) := by
  intro e
  induction e with
  | zero =>
    intro v k n m T tn x he hv hT hk hn hm ht hx hq
    cases n with
    | zero => omega
    | succ n =>
      cases m with
      | zero => omega
      | succ m =>
        by_cases hvd : v = d
        · rw [f_X8_run_L22, if_neg (show ¬ (16 : Int32) < nI k from nI_nlt (b := k) (a := 16) (by omega) (by omega)), hx.2.2.1, if_pos (by rw [hvd])]
          exact hq x (v, T, tn) (Or.inl ⟨hvd, rfl⟩) (xF_rf _ _) hx
        · rcases run_step (M := M) (k := k) hN hd (c := 1) (by decide) hv hvd (by omega) (by omega) x ht hx n kk with ⟨u, l, x', g1, _⟩ | ⟨g1, g2⟩
          · obtain ⟨e', h', _⟩ := tb_d_go hN he g1.1
            omega
          · rw [show (1 : Int32) = nI 1 from rfl, g2, if_neg (by decide)]
            exact hq x (v, T, tn) (Or.inr ⟨hvd, Or.inr ⟨g1, Or.inr ⟨by decide, rfl⟩⟩⟩) (xF_rf _ _) hx
  | succ e ih =>
    intro v k n m T tn x he hv hT hk hn hm ht hx hq
    cases n with
    | zero => omega
    | succ n =>
      cases m with
      | zero => omega
      | succ m =>
        have hvd : v ≠ d := by
          rcases he with ⟨u, h, _⟩ | ⟨h, _⟩
          · exact (hp_A hN.2.1 h).2.1
          · omega
        rcases run_step (M := M) (k := k) hN hd (c := 1) (by decide) hv hvd (by omega) (by omega) x ht hx n kk with ⟨u, l, x', g1, g2, g3, g4⟩ | ⟨g1, g2⟩
        · obtain ⟨e', h1, h2⟩ := tb_d_go hN he g1.1
          have h1 : e = e' := by omega
          subst h1
          rw [show (1 : Int32) = nI 1 from rfl, g4]
          refine ih u (k + 1) n m (T ++ [l]) tn x' h2 (hp_A hN.2.1 g1.1).2.2.2 (by rw [List.length_append]; simp; omega) (by omega) (by omega) (by omega) (ct_r_251 g3 ht) g2 (fun x'' R r1 r2 r3 => hq x'' R (Or.inr ⟨hvd, Or.inl ⟨u, l, g1, r1⟩⟩) (xF_tr g3 r2) r3)
        · rw [show (1 : Int32) = nI 1 from rfl, g2, if_neg (by decide)]
          exact hq x (v, T, tn) (Or.inr ⟨hvd, Or.inr ⟨g1, Or.inr ⟨by decide, rfl⟩⟩⟩) (xF_rf _ _) hx
theorem run_r (hN : s_N σ np P L) (hd : d < 8) {Q : Option mX → Prop} (kk : mX → Option mX) : ∀ e v k n m (T : List Nat) (tn : Int32) (x : mX), tb_d σ P L d 0 v e → v < 8 → T.length + e ≤ 7 → k + e ≤ 8 → e + 9 < n → e + 9 < m → ct_r x.1 σ P L d → tr_X x v T tn → (∀ x' R, tr σ P L M d m 0 v T tn R → xF tp_W x x' → tr_X x' R.1 R.2.1 R.2.2 → Q (kk x')) → Q (f_X8_run_L22 (nI d) M n 0 (nI k) x kk) := by
  have turn : ∀ v k n m (T : List Nat) (tn : Int32) (x : mX), v ≠ d → v < 8 → T.length ≤ 7 → k ≤ 8 → 8 < n → 8 < m → ct_r x.1 σ P L d → tr_X x v T tn → (∀ u l, ¬ tg σ P L M d 0 v u l) → (∀ x' R, tr σ P L M d (m + 1) 0 v T tn R → xF tp_W x x' → tr_X x' R.1 R.2.1 R.2.2 → Q (kk x')) → Q (f_X8_run_L22 (nI d) M n 1 (nI (k + 1)) (m_xs x 251 2 (nI v)) kk) := by
    intro v k n m T tn x hvd hv hT hk hn hm ht hx hno hq
    obtain ⟨e, e1, e2⟩ := tb_d_ex (d := d) hN 1 v
    have F1 : xF tp_W x (m_xs x 251 2 (nI v)) := xF_set (xF_rf _ _) (Or.inl rfl)
    refine run_b hN hd kk e v (k + 1) n m T (nI v) _ e2 hv (by omega) (by omega) (by omega) (by omega) (ct_r_251 F1 ht) ⟨?_, xs_eq _ _ _ _, ?_, fun i l hi => ?_⟩ (fun x' R r1 r2 r3 => hq x' R (Or.inr ⟨hvd, Or.inr ⟨hno, Or.inl ⟨rfl, r1⟩⟩⟩) (xF_tr F1 r2) r3)
    · rw [xs_ec (by decide)]; exact hx.1
    · rw [xs_ec (by decide)]; exact hx.2.2.1
    · rw [xs_ne (by decide)]; exact hx.2.2.2 i l hi
  intro e
  induction e with
  | zero =>
    intro v k n m T tn x he hv hT hk hn hm ht hx hq
    cases n with
    | zero => omega
    | succ n =>
      cases m with
      | zero => omega
      | succ m =>
        by_cases hvd : v = d
        · rw [f_X8_run_L22, if_neg (show ¬ (16 : Int32) < nI k from nI_nlt (b := k) (a := 16) (by omega) (by omega)), hx.2.2.1, if_pos (by rw [hvd])]
          exact hq x (v, T, tn) (Or.inl ⟨hvd, rfl⟩) (xF_rf _ _) hx
        · rcases run_step (M := M) (k := k) hN hd (c := 0) (by decide) hv hvd (by omega) (by omega) x ht hx n kk with ⟨u, l, x', g1, _⟩ | ⟨g1, g2⟩
          · obtain ⟨e', h', _⟩ := tb_d_go hN he g1.1
            omega
          · rw [show (0 : Int32) = nI 0 from rfl, g2, if_pos (by decide)]
            exact turn v k n m T tn x hvd hv (by omega) (by omega) (by omega) (by omega) ht hx g1 hq
  | succ e ih =>
    intro v k n m T tn x he hv hT hk hn hm ht hx hq
    cases n with
    | zero => omega
    | succ n =>
      cases m with
      | zero => omega
      | succ m =>
        have hvd : v ≠ d := by
          rcases he with ⟨u, h, _⟩ | ⟨h, _⟩
          · exact (hp_A hN.2.1 h).2.1
          · omega
        rcases run_step (M := M) (k := k) hN hd (c := 0) (by decide) hv hvd (by omega) (by omega) x ht hx n kk with ⟨u, l, x', g1, g2, g3, g4⟩ | ⟨g1, g2⟩
        · obtain ⟨e', h1, h2⟩ := tb_d_go hN he g1.1
          have h1 : e = e' := by omega
          subst h1
          rw [show (0 : Int32) = nI 0 from rfl, g4]
          refine ih u (k + 1) n m (T ++ [l]) tn x' h2 (hp_A hN.2.1 g1.1).2.2.2 (by rw [List.length_append]; simp; omega) (by omega) (by omega) (by omega) (ct_r_251 g3 ht) g2 (fun x'' R r1 r2 r3 => hq x'' R (Or.inr ⟨hvd, Or.inl ⟨u, l, g1, r1⟩⟩) (xF_tr g3 r2) r3)
        · rw [show (0 : Int32) = nI 0 from rfl, g2, if_pos (by decide)]
          exact turn v k n m T tn x hvd hv (by omega) (by omega) (by omega) (by omega) ht hx g1 hq
theorem run_ok (hN : s_N σ np P L) {s : Nat} (hd : d < 8) (hs : s < 8) (x : mX) (ht : ct_r x.1 σ P L d) : ∃ R x', f_X8_run (nI s) (nI d) M x = some x' ∧ tr σ P L M d 20 0 s [] (-2) R ∧ xF tp_W x x' ∧ tr_X x' R.1 R.2.1 R.2.2 ∧ ((R.1 = d ∧ x'.1 251 0 = 1) ∨ (R.1 ≠ d ∧ x'.1 251 0 = 0)) := by
  unfold f_X8_run
  rw [m_let, m_let, m_let]
  obtain ⟨e, e1, e2⟩ := tb_d_ex (d := d) hN 0 s
  have F1 : xF tp_W x (m_xs (m_xs (m_xs x 251 1 0) 251 2 (-2)) 251 3 (nI s)) := xF_set (xF_set (xF_set (xF_rf _ _) (Or.inl rfl)) (Or.inl rfl)) (Or.inl rfl)
  have hm : 20 < mF := by decide
  refine run_r (M := M) (Q := fun o => ∃ R x', o = some x' ∧ tr σ P L M d 20 0 s [] (-2) R ∧ xF tp_W x x' ∧ tr_X x' R.1 R.2.1 R.2.2 ∧ ((R.1 = d ∧ x'.1 251 0 = 1) ∨ (R.1 ≠ d ∧ x'.1 251 0 = 0))) hN hd _ e s 0 mF 20 [] (-2) _ e2 hs (by simp; omega) (by omega) (by omega) (by omega) (ct_r_251 F1 ht) ⟨?_, ?_, xs_eq _ _ _ _, fun i l hi => ?_⟩ ?_
  · rw [xs_ec (by decide), xs_ec (by decide), xs_eq]; rfl
  · rw [xs_ec (by decide), xs_eq]
  · cases hi
  · intro x' R r1 r2 r3
    have hR8 : R.1 < 8 := by
      have key : ∀ n c v T tn R, v < 8 → tr σ P L M d n c v T tn R → R.1 < 8 := by
        intro n
        induction n with
        | zero => intro c v T tn R _ h; exact h.elim
        | succ n ih =>
          intro c v T tn R hv h
          rcases h with ⟨_, h⟩ | ⟨_, ⟨u, l, g, h⟩ | ⟨_, ⟨_, h⟩ | ⟨_, h⟩⟩⟩
          · rw [h]; exact hv
          · exact ih _ _ _ _ _ (hp_A hN.2.1 g.1).2.2.2 h
          · exact ih _ _ _ _ _ hv h
          · rw [h]; exact hv
      exact key _ _ _ _ _ _ hs r1
    rw [r3.2.2.1]
    have put : ∀ w : Int32, ((R.1 = d ∧ w = 1) ∨ (R.1 ≠ d ∧ w = 0)) → ∃ R x'', some (m_xs x' 251 0 w) = some x'' ∧ tr σ P L M d 20 0 s [] (-2) R ∧ xF tp_W x x'' ∧ tr_X x'' R.1 R.2.1 R.2.2 ∧ ((R.1 = d ∧ x''.1 251 0 = 1) ∨ (R.1 ≠ d ∧ x''.1 251 0 = 0)) := by
      intro w hw
      refine ⟨R, _, rfl, r1, xF_tr F1 (xF_set r2 (Or.inl rfl)), ⟨?_, ?_, ?_, fun i l hi => ?_⟩, ?_⟩
      · rw [xs_ec (by decide)]; exact r3.1
      · rw [xs_ec (by decide)]; exact r3.2.1
      · rw [xs_ec (by decide)]; exact r3.2.2.1
      · rw [xs_ne (by decide)]; exact r3.2.2.2 i l hi
      · rw [xs_eq]; exact hw
    by_cases c : R.1 = d
    · rw [if_pos (by rw [c]), m_let]
      exact put 1 (Or.inl ⟨c, rfl⟩)
    · rw [if_neg (fun z => c ((nI_eq (by omega) (by omega)).mp z)), m_let]
      exact put 0 (Or.inr ⟨c, rfl⟩)
end T2
