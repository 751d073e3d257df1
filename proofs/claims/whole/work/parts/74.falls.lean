/-! ===== a net of one piece (4): some link lessens the need ===== -/
section R2
variable {A : Nat → Nat → Prop} {V : Nat → Prop}
theorem sep_ends (hN : g_N A V) {v : Nat} (kv : g_K A V v) : ∃ a b p1 j1 p2 j2, e2 A V a b p1 j1 p2 j2 ∧ ¬ g_C A (g_D V v) a b := by
  have hA := hN.1
  obtain ⟨_, x, y, x1, y1, hx, hy, hxv, hyv, hno⟩ := id kv
  obtain ⟨q, i, h1, h2⟩ := leaf_at hN (c := x) kv ⟨x, g_rf ⟨hx, hxv⟩, x1⟩
  obtain ⟨q', i', k1, k2⟩ := leaf_at hN (c := y) kv ⟨y, g_rf ⟨hy, hyv⟩, y1⟩
  have hi := g_rf (A := A) h1.2.1.1
  have hi' := g_rf (A := A) k1.2.1.1
  have sep : ¬ g_C A (g_D V v) i i' := fun k => hno (g_tr (h2 i hi) (g_tr k (g_sy hA (k2 i' hi'))))
  exact ⟨i, i', q, i, q', i', ⟨h1, k1, fun e => sep (by rw [← e.2]; exact g_rf (g_in (h2 i hi))), hi, hi'⟩, sep⟩
/-- ends in one part beside v, if there are more ends than parts -/
theorem same_part (hN : g_N A V) {v : Nat} (kv : g_K A V v) (h : dw A V v < sme A V 8) : ∃ t t', t ≠ t' ∧ t < 64 ∧ t' < 64 ∧ en A V (t / 8) (t % 8) ∧ en A V (t' / 8) (t' % 8) ∧ g_C A (g_D V v) (t % 8) (t' % 8) := by
  have hA := hN.1
  refine Classical.byContradiction fun hc => ?_
  have k : g_n (fun k => en A V (k / 8) (k % 8)) (8 * 8) ≤ g_n (g_L A (g_D V v)) 8 := by
    refine g_n_inj2 (8 * 8) (fun t i => en A V (t / 8) (t % 8) ∧ g_C A (g_D V v) (t % 8) i) ?_ 8 _ _ ?_
    · rintro c d i c8 d8 ⟨c1, c2⟩ ⟨d1, d2⟩
      exact Classical.byContradiction fun e => hc ⟨c, d, e, by omega, by omega, c1, d1, g_tr c2 (g_sy hA d2)⟩
    · intro t ht he
      have hj := g_rf (A := A) he.2.1.1
      have hv : t % 8 ≠ v := fun e => he.2.2.1 _ hj (by rw [e]; exact kv)
      obtain ⟨i, i1, i2, _⟩ := g_L_ex (A := A) (V := g_D V v) (v := t % 8) ⟨he.2.1.1.1, hv⟩
      exact ⟨i, hN.2.2 i i1.1.1, i1, he, i2⟩
  rw [sme_eq] at h
  unfold dw at h
  omega
theorem ex_4 {P : Nat → Prop} {n : Nat} (h : 4 ≤ g_n P n) : ∃ i j k l, P i ∧ P j ∧ P k ∧ P l ∧ i ≠ j ∧ i ≠ k ∧ i ≠ l ∧ j ≠ k ∧ j ≠ l ∧ k ≠ l := by
  obtain ⟨i, j, _, _, i1, j1, hij⟩ := g_n_2.mp (show 2 ≤ g_n P n by omega)
  have s := g_n_split (P := P) (Q := fun t => t = i ∨ t = j) n
  have s2 := g_n_split (P := fun t => P t ∧ (t = i ∨ t = j)) (Q := fun t => t = i) n
  have o1 : g_n (fun t => (P t ∧ (t = i ∨ t = j)) ∧ t = i) n ≤ 1 := g_n_atmost n (fun a b _ _ ha hb => ha.2.trans hb.2.symm)
  have o2 : g_n (fun t => (P t ∧ (t = i ∨ t = j)) ∧ ¬ t = i) n ≤ 1 := g_n_atmost n (fun a b _ _ ha hb => by
    have e1 := ha.1.2.resolve_left ha.2
    have e2 := hb.1.2.resolve_left hb.2
    exact e1.trans e2.symm)
  obtain ⟨k, l, _, _, k1, l1, hkl⟩ := g_n_2.mp (show 2 ≤ g_n (fun t => P t ∧ ¬ (t = i ∨ t = j)) n by omega)
  have k2 := k1.2
  have l2 := l1.2
  exact ⟨i, j, k, l, i1, j1, k1.1, l1.1, hij, fun e => k2 (Or.inl e.symm), fun e => l2 (Or.inl e.symm), fun e => k2 (Or.inr e.symm), fun e => l2 (Or.inr e.symm), hkl⟩
/-- what nd_U2 asks -/
def fls (A : Nat → Nat → Prop) (V : Nat → Prop) : Prop := ∃ a b, V a ∧ V b ∧ a ≠ b ∧ nd (aj A a b) V < nd A V
theorem e2_ne (hN : g_N A V) {a b p1 j1 p2 j2 : Nat} (h : e2 A V a b p1 j1 p2 j2) : V a ∧ V b ∧ a ≠ b ∧ ¬ g_K A V a ∧ ¬ g_K A V b := ⟨(g_in h.2.2.2.1).1, (g_in h.2.2.2.2).1, fun e => h.2.2.1 (en_dj hN h.1 h.2.1 h.2.2.2.1 (by rw [e]; exact h.2.2.2.2)), h.1.2.2.1 a h.2.2.2.1, h.2.1.2.2.1 b h.2.2.2.2⟩
/-- fewer ends than twice the need -/
theorem fls_odd (hN : g_N A V) (hc : cn A V) (h3 : 2 < g_n V 8) {k p0 : Nat} (hk : nd A V = k) (k1 : 1 ≤ k) (hd : ∀ p, g_K A V p → dw A V p ≤ k + 1) (hl : sme A V 8 + 1 ≤ 2 * k) (h0 : g_K A V p0) : fls A V := by
  by_cases hv : ∃ v, g_K A V v ∧ dw A V v = k + 1
  · obtain ⟨v, v1, v2⟩ := hv
    obtain ⟨a, b, p1, j1, p2, j2, h, hs⟩ := sep_ends hN v1
    obtain ⟨ha, hb, hab, ka, kb⟩ := e2_ne hN h
    have n := (e2_n hN hc h).1
    refine ⟨a, b, ha, hb, hab, nd_fall hN hc h3 hab ha hb hk k1 (fun p hp => ?_) (by omega)⟩
    have kp := cn_K hN hc hp
    have d := hd p kp
    by_cases e : p = v
    · subst e
      have := dw_lt hN (p := p) ha hb (fun e => ka (by rw [e]; exact kp)) (fun e => kb (by rw [e]; exact kp)) hs
      omega
    · have := two_wide hN hc kp v1 e
      have := dw_le (A := A) (V := V) (a := a) (b := b) (p := p)
      omega
  · obtain ⟨a, b, p1, j1, p2, j2, h, hs⟩ := sep_ends hN h0
    obtain ⟨ha, hb, hab, ka, kb⟩ := e2_ne hN h
    have n := (e2_n hN hc h).1
    refine ⟨a, b, ha, hb, hab, nd_fall hN hc h3 hab ha hb hk k1 (fun p hp => ?_) (by omega)⟩
    have kp := cn_K hN hc hp
    have d := hd p kp
    have e : dw A V p ≠ k + 1 := fun e => hv ⟨p, kp, e⟩
    have := dw_le (A := A) (V := V) (a := a) (b := b) (p := p)
    omega
/-- two ends, two parts beside each cut -/
theorem fls_one (hN : g_N A V) (hc : cn A V) (h3 : 2 < g_n V 8) {p0 : Nat} (hk : nd A V = 1) (hd : ∀ p, g_K A V p → dw A V p ≤ 2) (hl : sme A V 8 = 2) (h0 : g_K A V p0) : fls A V := by
  have hA := hN.1
  obtain ⟨a, b, p1, j1, p2, j2, h, hs⟩ := sep_ends hN h0
  obtain ⟨ha, hb, hab, ka, kb⟩ := e2_ne hN h
  have hN' := aj_N hN ha hb hab
  have hc' : cn (aj A a b) V := cn_aj hc
  have only : ∀ q i, en A V q i → (q = p1 ∧ i = j1) ∨ (q = p2 ∧ i = j2) := fun q i hq => Classical.byContradiction fun hcc => by
    have d0 := en_dm hN hq
    have d1 := en_dm hN h.1
    have d2 := en_dm hN h.2.1
    rw [sme_eq] at hl
    have := g_n_3 (P := fun k => en A V (k / 8) (k % 8)) (n := 8 * 8) (i := q * 8 + i) (j := p1 * 8 + j1) (k := p2 * 8 + j2) (fun e => hcc (Or.inl ⟨by omega, by omega⟩)) (fun e => hcc (Or.inr ⟨by omega, by omega⟩)) (fun e => h.2.2.1 ⟨by omega, by omega⟩) d0.1 d1.1 d2.1 (by rw [d0.2.1, d0.2.2.1]; exact hq) (by rw [d1.2.1, d1.2.2.1]; exact h.1) (by rw [d2.2.1, d2.2.2.1]; exact h.2.1)
    omega
  have nocut : ∀ p, ¬ g_K (aj A a b) V p := fun p hp => by
    have kp := cn_K hN hc hp
    have d := hd p kp
    have d' := (dw_cut hN' hc' hp.1).mpr hp
    obtain ⟨_, x, y, x1, y1, hx, hy, hxv, hyv, hno⟩ := id kp
    obtain ⟨q, i, e1, e2⟩ := leaf_at hN (c := x) kp ⟨x, g_rf ⟨hx, hxv⟩, x1⟩
    obtain ⟨q', i', f1, f2⟩ := leaf_at hN (c := y) kp ⟨y, g_rf ⟨hy, hyv⟩, y1⟩
    have sep : ¬ g_C A (g_D V p) a b := fun z => by
      rcases only q i e1 with ⟨rfl, rfl⟩ | ⟨rfl, rfl⟩
      · rcases only q' i' f1 with ⟨rfl, rfl⟩ | ⟨rfl, rfl⟩
        · exact hno (g_tr (e2 a h.2.2.2.1) (g_sy hA (f2 a h.2.2.2.1)))
        · exact hno (g_tr (e2 a h.2.2.2.1) (g_tr z (g_sy hA (f2 b h.2.2.2.2))))
      · rcases only q' i' f1 with ⟨rfl, rfl⟩ | ⟨rfl, rfl⟩
        · exact hno (g_tr (e2 b h.2.2.2.2) (g_tr (g_sy hA z) (g_sy hA (f2 a h.2.2.2.1))))
        · exact hno (g_tr (e2 b h.2.2.2.2) (g_sy hA (f2 b h.2.2.2.2)))
    have := dw_lt hN (p := p) ha hb (fun e => ka (by rw [e]; exact kp)) (fun e => kb (by rw [e]; exact kp)) sep
    omega
  refine ⟨a, b, ha, hb, hab, nd_fall hN hc h3 hab ha hb hk (Nat.le_refl 1) (fun p hp => absurd hp (nocut p)) ?_⟩
  rw [sme_eq, g_n_zero (8 * 8) (fun c _ h => nocut _ h.1)]
  omega
/-- two wide cuts -/
theorem fls_two (hN : g_N A V) (hc : cn A V) (h3 : 2 < g_n V 8) {k v w : Nat} (hk : nd A V = k) (k1 : 2 ≤ k) (hd : ∀ p, g_K A V p → dw A V p ≤ k + 1) (hl : sme A V 8 = 2 * k) (kv : g_K A V v) (dv : dw A V v = k + 1) (kw : g_K A V w) (dW : dw A V w = k + 1) (hvw : w ≠ v) : fls A V := by
  have hA := hN.1
  have h1 := away_1 hN w v
  have h2 := away_1 hN v w
  obtain ⟨j, j', _, _, ⟨x1, x2⟩, ⟨y1, y2⟩, hjj⟩ := g_n_2.mp (show 2 ≤ g_n (fun j => g_L A (g_D V w) j ∧ ¬ g_C A (g_D V w) j v) 8 by omega)
  obtain ⟨i, _, _, _, ⟨z1, z2⟩, _, _⟩ := g_n_2.mp (show 2 ≤ g_n (fun j => g_L A (g_D V v) j ∧ ¬ g_C A (g_D V v) j w) 8 by omega)
  obtain ⟨p1, a, ea, sa⟩ := part_end hN hc kw x1.1
  obtain ⟨p3, r, er, sr⟩ := part_end hN hc kw y1.1
  obtain ⟨p2, b, eb, sb⟩ := part_end hN hc kv z1.1
  have ia := g_rf (A := A) ea.2.1.1
  have ir := g_rf (A := A) er.2.1.1
  have ib := g_rf (A := A) eb.2.1.1
  have hja := sa a ia
  have hjr := sr r ir
  have hib := sb b ib
  have bw : ¬ g_C A (g_D V v) b w := fun k => z2 (g_tr hib k)
  -- from a post in a part of w away from v to w, without v
  have tow : ∀ c d, ¬ g_C A (g_D V w) c v → g_C A (g_D V w) c d → g_C A (g_D V v) d w := fun c d h1 h2 => near hN hc kw.1 (g_in h2).1 (g_in h2).2 (Ne.symm hvw) (fun k => h1 (g_tr h2 k))
  have aw := tow j a x2 hja
  have rw' := tow j' r y2 hjr
  have abv : ¬ g_C A (g_D V v) a b := fun k => bw (g_tr (g_sy hA k) aw)
  have abw : ¬ g_C A (g_D V w) a b := fun k => bw (tow j b x2 (g_tr hja k))
  have na : ¬ g_C A (g_D V p3) r a := fun k => hjj (g_L_un hA x1 y1 (g_tr hja (g_sy hA (sr a k))))
  have nb : ¬ g_C A (g_D V p3) r b := fun k => bw (tow j' b y2 (sr b k))
  have h : e2 A V a b p1 a p2 b := ⟨ea, eb, fun e => abv (by rw [← e.2]; exact g_rf aw.1), ia, ib⟩
  obtain ⟨ha, hb, hab, ka, kb⟩ := e2_ne hN h
  have n := (e2_n hN hc h).2 (fun p q he => new_3 hN hc h er ir na nb kv (by omega) (g_tr aw (g_sy hA rw')) abv he)
  refine ⟨a, b, ha, hb, hab, nd_fall hN hc h3 hab ha hb hk (by omega) (fun p hp => ?_) (by omega)⟩
  have kp := cn_K hN hc hp
  have d := hd p kp
  have lt : ¬ g_C A (g_D V p) a b → dw (aj A a b) V p < dw A V p := dw_lt hN (p := p) ha hb (fun e => ka (by rw [e]; exact kp)) (fun e => kb (by rw [e]; exact kp))
  by_cases e : p = v
  · subst e
    have := lt abv
    omega
  by_cases e' : p = w
  · subst e'
    have := lt abw
    omega
  have := three_wide hN hc kp kv kw e e' (Ne.symm hvw)
  have := dw_le (A := A) (V := V) (a := a) (b := b) (p := p)
  omega
/-- one cut of three parts or more -/
theorem fls_three (hN : g_N A V) (hc : cn A V) (h3 : 2 < g_n V 8) {k v : Nat} (hk : nd A V = k) (k1 : 2 ≤ k) (hd : ∀ p, g_K A V p → dw A V p ≤ k + 1) (hl : sme A V 8 = 2 * k) (kv : g_K A V v) (dv : 3 ≤ dw A V v) (hw : ∀ w, g_K A V w → w ≠ v → dw A V w ≤ k) : fls A V := by
  have hA := hN.1
  have := hd v kv
  obtain ⟨t, t', tt, t1, t2, ea, er, ar⟩ := same_part hN kv (by omega)
  obtain ⟨z, _, z1, z2, z3, _, _, _, _, z8⟩ := cut_away hN kv (t % 8)
  obtain ⟨p2, b, eb, sb⟩ := part_end hN hc kv (j := z) ⟨z2, z3⟩
  have ia := g_rf (A := A) ea.2.1.1
  have ir := g_rf (A := A) er.2.1.1
  have ib := g_rf (A := A) eb.2.1.1
  have hzb := sb b ib
  have abv : ¬ g_C A (g_D V v) (t % 8) b := fun k => z8 (g_tr hzb (g_sy hA k))
  have na : ¬ g_C A (g_D V (t' / 8)) (t' % 8) (t % 8) := fun k => by
    have := en_dj hN ea er ia k
    omega
  have nb : ¬ g_C A (g_D V (t' / 8)) (t' % 8) b := fun k => by
    have e := (en_dj hN eb er ib k).2
    exact abv (by rw [e]; exact ar)
  have h : e2 A V (t % 8) b (t / 8) (t % 8) p2 b := ⟨ea, eb, fun e => abv (by rw [← e.2]; exact g_rf ar.1), ia, ib⟩
  obtain ⟨ha, hb, hab, ka, kb⟩ := e2_ne hN h
  have n := (e2_n hN hc h).2 (fun p q he => new_3 hN hc h er ir na nb kv dv ar abv he)
  refine ⟨t % 8, b, ha, hb, hab, nd_fall hN hc h3 hab ha hb hk (by omega) (fun p hp => ?_) (by omega)⟩
  have kp := cn_K hN hc hp
  have d := hd p kp
  by_cases e : p = v
  · subst e
    have := dw_lt hN (p := p) ha hb (fun e => ka (by rw [e]; exact kp)) (fun e => kb (by rw [e]; exact kp)) abv
    omega
  · have := hw p kp e
    have := dw_le (A := A) (V := V) (a := t % 8) (b := b) (p := p)
    omega
/-- two parts beside each cut, four ends or more -/
theorem fls_four (hN : g_N A V) (hc : cn A V) (h3 : 2 < g_n V 8) {k : Nat} (hk : nd A V = k) (k1 : 2 ≤ k) (hd : ∀ p, g_K A V p → dw A V p ≤ 2) (hl : sme A V 8 = 2 * k) : fls A V := by
  have hA := hN.1
  have hl' := hl
  rw [sme_eq] at hl'
  obtain ⟨c1, c2, c3, c4, e1, e2', e3, e4, n12, n13, n14, n23, n24, n34⟩ := ex_4 (show 4 ≤ g_n (fun k => en A V (k / 8) (k % 8)) (8 * 8) by omega)
  have no : ∀ c d, en A V (c / 8) (c % 8) → en A V (d / 8) (d % 8) → c ≠ d → ¬ g_C A (g_D V (c / 8)) (c % 8) (d % 8) := fun c d hc hd hcd k => by
    have := en_dj hN hc hd k (g_rf hd.2.1.1)
    omega
  have pair : ∀ c d, en A V (c / 8) (c % 8) → en A V (d / 8) (d % 8) → c ≠ d → e2 A V (c % 8) (d % 8) (c / 8) (c % 8) (d / 8) (d % 8) := fun c d hc hd hcd => ⟨hc, hd, fun e => hcd (by omega), g_rf hc.2.1.1, g_rf hd.2.1.1⟩
  have done : ∀ c d, en A V (c / 8) (c % 8) → en A V (d / 8) (d % 8) → c ≠ d → (∀ p j, en (aj A (c % 8) (d % 8)) V p j → ¬ g_C (aj A (c % 8) (d % 8)) (g_D V p) j (c % 8)) → fls A V := fun c d h1 h2 hcd hno => by
    have h := pair c d h1 h2 hcd
    obtain ⟨ha, hb, hab, ka, kb⟩ := e2_ne hN h
    have n := (e2_n hN hc h).2 hno
    refine ⟨_, _, ha, hb, hab, nd_fall hN hc h3 hab ha hb hk (by omega) (fun p hp => ?_) (by omega)⟩
    have := hd p (cn_K hN hc hp)
    have := dw_le (A := A) (V := V) (a := c % 8) (b := d % 8) (p := p)
    omega
  rcases new_2 hN hc hd (pair c1 c2 e1 e2' n12) e3 (g_rf e3.2.1.1) (no c3 c1 e3 e1 (Ne.symm n13)) (no c3 c2 e3 e2' (Ne.symm n23)) e4 (g_rf e4.2.1.1) (no c4 c1 e4 e1 (Ne.symm n14)) (no c4 c2 e4 e2' (Ne.symm n24)) with z | ⟨u, u1, u2, u3⟩
  · exact done c1 c2 e1 e2' n12 z
  rcases new_2 hN hc hd (pair c1 c3 e1 e3 n13) e2' (g_rf e2'.2.1.1) (no c2 c1 e2' e1 (Ne.symm n12)) (no c2 c3 e2' e3 n23) e4 (g_rf e4.2.1.1) (no c4 c1 e4 e1 (Ne.symm n14)) (no c4 c3 e4 e3 (Ne.symm n34)) with z | ⟨h, h1, h2, h3'⟩
  · exact done c1 c3 e1 e3 n13 z
  exact (four hN hc u1 u2 u3 h1 h2 h3').elim
theorem nd_U2 (hN : g_N A V) (hc : cn A V) (h3 : 2 < g_n V 8) {p0 : Nat} (h0 : g_K A V p0) : fls A V := by
  have e := nd_c hN hc h3
  have hd : ∀ p, g_K A V p → dw A V p ≤ nd A V + 1 := fun p hp => by
    have := mxw_ge hp 8 (hN.2.2 p hp.1)
    omega
  have k1 : 1 ≤ nd A V := by
    have := (dw_cut hN hc h0.1).mpr h0
    have := hd p0 h0
    omega
  by_cases c1 : sme A V 8 + 1 ≤ 2 * nd A V
  · exact fls_odd hN hc h3 rfl k1 hd c1 h0
  have hl : sme A V 8 = 2 * nd A V := by omega
  by_cases c2 : nd A V = 1
  · rw [c2] at hl hd
    exact fls_one hN hc h3 c2 hd hl h0
  by_cases c3 : ∃ v, g_K A V v ∧ 3 ≤ dw A V v
  · by_cases c4 : ∃ v, g_K A V v ∧ dw A V v = nd A V + 1
    · obtain ⟨v, v1, v2⟩ := c4
      by_cases c5 : ∃ w, g_K A V w ∧ w ≠ v ∧ dw A V w = nd A V + 1
      · obtain ⟨w, w1, w2, w3⟩ := c5
        exact fls_two hN hc h3 rfl (by omega) hd hl v1 v2 w1 w3 w2
      · refine fls_three hN hc h3 rfl (by omega) hd hl v1 (by omega) (fun w hw hne => ?_)
        have := hd w hw
        have : dw A V w ≠ nd A V + 1 := fun e => c5 ⟨w, hw, hne, e⟩
        omega
    · obtain ⟨v, v1, v2⟩ := c3
      refine fls_three hN hc h3 rfl (by omega) hd hl v1 v2 (fun w hw hne => ?_)
      have := hd w hw
      have : dw A V w ≠ nd A V + 1 := fun e => c4 ⟨w, hw, e⟩
      omega
  · refine fls_four hN hc h3 rfl (by omega) (fun p hp => ?_) hl
    have : ¬ 3 ≤ dw A V p := fun z => c3 ⟨p, hp, z⟩
    omega
end R2
