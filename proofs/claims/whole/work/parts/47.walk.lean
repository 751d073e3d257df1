/-! ===== the class's walk ===== -/
section D2
variable {A : Nat → Nat → Prop} {V : Nat → Prop}
def wk_X (x : mX) (k : Nat) (nu pa : Nat → Nat) : Prop := x.1 240 4 = nI k ∧ (∀ p, p < 8 → x.1 241 p = nz (nu p) ∧ x.1 242 p = pz (pa p)) ∧ ∀ p, nu p ≠ 99 → x.1 244 (nu p) = nI p
def wk_W (q c : Nat) : Prop := (q = 240 ∧ c = 4) ∨ (241 ≤ q ∧ q ≤ 244)
theorem wk_229 {x x' : mX} (h : xF wk_W x x') : x'.1 229 = x.1 229 := xF_row h (fun c z => by rcases z with z | z <;> omega)
theorem walk_1 (x : mX) {Q : Option mX → Prop} (kk : mX → Option mX) (hk : ∀ x', xF wk_W x x' → x'.1 240 4 = x.1 240 4 → (∀ p, p < 8 → x'.1 241 p = -1 ∧ x'.1 242 p = -1) → Q (kk x')) : Q (f_X9_from_L7 mF 0 x kk) := by
  refine lp_up 8 (fun n b s => f_X9_from_L7 n b s kk) (fun j s => xF wk_W x s ∧ s.1 240 4 = x.1 240 4 ∧ ∀ p, p < j → s.1 241 p = -1 ∧ s.1 242 p = -1) Q ?_ ?_ mF 0 x (by decide) (by decide) ⟨xF_rf _ _, rfl, fun p hp => by omega⟩
  · intro n s hI
    show Q (f_X9_from_L7 (n + 1) (nI 8) s kk)
    rw [f_X9_from_L7, if_pos (by decide)]
    exact hk s hI.1 hI.2.1 hI.2.2
  · intro n j s hj hI ih
    show Q (f_X9_from_L7 (n + 1) (nI j) s kk)
    rw [f_X9_from_L7, if_neg (k8f hj), if_pos (in_ok hj (by decide)), cl (by omega), m_let, if_pos (in_ok hj (by decide)), m_let, if_pos (in_ok hj (by decide)), m_let, nI_1]
    refine ih _ ⟨xF_set (xF_set (xF_set hI.1 (Or.inr ⟨by omega, by omega⟩)) (Or.inr ⟨by omega, by omega⟩)) (Or.inr ⟨by omega, by omega⟩), ?_, fun p hp => ⟨?_, ?_⟩⟩
    · rw [xs_ne (by decide), xs_ne (by decide), xs_ne (by decide)]; exact hI.2.1
    · rw [xs_ne (by decide), xs_ne (by decide), xs_at]
      by_cases e : p = j
      · rw [if_pos e]
      · rw [if_neg e]; exact (hI.2.2 p (by omega)).1
    · rw [xs_ne (by decide), xs_at]
      by_cases e : p = j
      · rw [if_pos e]
      · rw [if_neg e, xs_ne (by decide)]; exact (hI.2.2 p (by omega)).2
theorem meet_ok {t k : Nat} (ht : t < 8) (hk : k < 8) (pv : Int32) (x : mX) (h : x.1 240 4 = nI k) : f_X9_meet (nI t) pv x = some (m_xs (m_xs (m_xs (m_xs x 241 t (nI k)) 242 t pv) 244 k (nI t)) 240 4 (nI (k + 1))) := by
  unfold f_X9_meet
  rw [h, if_neg (nI_pos (by omega)), if_pos (show nI k < (8 : Int32) from (nI_ltI (b := 8) (by omega) (by omega)).mpr hk), if_pos (in_ok ht (by decide)), cl (by omega), m_let, if_pos (in_ok ht (by decide)), m_let, xs_ne (by decide), xs_ne (by decide), h, if_pos (in_ok hk (by decide)), cl (by omega), m_let, m_let, xs_ne (by decide), xs_ne (by decide), xs_ne (by decide), h, nI_1]
theorem meet_X {t k : Nat} (ht : t < 8) (hk : k < 8) (a : Nat) {x : mX} {nu pa : Nat → Nat} (hx : wk_X x k nu pa) (hn : nu t = 99) (hj : ∀ p, nu p ≠ 99 → nu p < k) : wk_X (m_xs (m_xs (m_xs (m_xs x 241 t (nI k)) 242 t (pz a)) 244 k (nI t)) 240 4 (nI (k + 1))) (k + 1) (up nu t k) (up pa t a) ∧ xF wk_W x (m_xs (m_xs (m_xs (m_xs x 241 t (nI k)) 242 t (pz a)) 244 k (nI t)) 240 4 (nI (k + 1))) := by
  obtain ⟨x1, x2, x3⟩ := hx
  refine ⟨⟨xs_eq _ _ _ _, fun p hp => ⟨?_, ?_⟩, fun p hp => ?_⟩, xF_set (xF_set (xF_set (xF_set (xF_rf _ _) (Or.inr ⟨by omega, by omega⟩)) (Or.inr ⟨by omega, by omega⟩)) (Or.inr ⟨by omega, by omega⟩)) (Or.inl ⟨rfl, rfl⟩)⟩
  · rw [xs_ne (by decide), xs_ne (by decide), xs_ne (by decide), xs_at]
    by_cases e : p = t
    · rw [if_pos e, e, up_eq, nz_ok (by omega)]
    · rw [if_neg e, up_ne e]; exact (x2 p hp).1
  · rw [xs_ne (by decide), xs_ne (by decide), xs_at]
    by_cases e : p = t
    · rw [if_pos e, e, up_eq]
    · rw [if_neg e, xs_ne (by decide), up_ne e]; exact (x2 p hp).2
  · rw [xs_ne (by decide), xs_at]
    by_cases e : p = t
    · rw [e, up_eq, if_pos rfl]
    · rw [up_ne e] at hp ⊢
      have := hj p hp
      rw [if_neg (by omega), xs_ne (by decide), xs_ne (by decide)]
      exact x3 p hp
theorem nz_m1 {n : Nat} (h : n < 2 ^ 31) : nz n = -1 ↔ n = 99 := by
  unfold nz
  by_cases c : n = 99
  · rw [if_pos c]; exact ⟨fun _ => c, fun _ => rfl⟩
  · rw [if_neg c]; exact ⟨fun z => absurd z (nI_m1 h), fun z => absurd z c⟩
theorem lowestNew_ok {a : Nat} (hN : g_N A V) {S : Int32} (hS : ∀ q, bt S q = true ↔ A a q) (x : mX) {nu : Nat → Nat} (hx : ∀ p, p < 8 → x.1 241 p = nz (nu p)) (hb : ∀ p, nu p < 2 ^ 31) : (∃ t, ln A nu a t ∧ f_X9_lowestNew S x = some (nI t)) ∨ ((∀ q, A a q → nu q ≠ 99) ∧ f_X9_lowestNew S x = some (-1)) := by
  unfold f_X9_lowestNew
  refine lp_up 8 (fun n b (_ : Unit) => f_X9_lowestNew_L2 S n b x) (fun j _ => ∀ q, q < j → A a q → nu q ≠ 99) (fun o => (∃ t, ln A nu a t ∧ o = some (nI t)) ∨ ((∀ q, A a q → nu q ≠ 99) ∧ o = some (-1))) ?_ ?_ mF 0 () (by decide) (by decide) (fun q hq => by omega)
  · intro n _ hI
    refine Or.inr ⟨fun q hq => hI q (hN.2.2 q (hN.2.1 _ _ hq).2.1) hq, ?_⟩
    show f_X9_lowestNew_L2 S (n + 1) (nI 8) x = _
    rw [f_X9_lowestNew_L2, if_pos (by decide)]
  · intro n j _ hj hI ih
    show (∃ t, ln A nu a t ∧ f_X9_lowestNew_L2 S (n + 1) (nI j) x = some (nI t)) ∨ ((∀ q, A a q → nu q ≠ 99) ∧ f_X9_lowestNew_L2 S (n + 1) (nI j) x = some (-1))
    rw [f_X9_lowestNew_L2, if_neg (k8f hj), nI_1]
    have skip : ¬ (A a j ∧ nu j = 99) → (∃ t, ln A nu a t ∧ f_X9_lowestNew_L2 S n (nI (j + 1)) x = some (nI t)) ∨ ((∀ q, A a q → nu q ≠ 99) ∧ f_X9_lowestNew_L2 S n (nI (j + 1)) x = some (-1)) := by
      intro hno
      refine ih () (fun q hq hA => ?_)
      by_cases e : q = j
      · subst e; exact fun z => hno ⟨hA, z⟩
      · exact hI q (by omega) hA
    by_cases c1 : bt S j = true
    · rw [if_neg (h10t (by omega) c1), if_pos (in_ok hj (by decide)), cl (by omega), hx j hj]
      by_cases c2 : nu j = 99
      · rw [if_pos ((nz_m1 (hb j)).mpr c2)]
        exact Or.inl ⟨j, ⟨(hS j).mp c1, c2, hI⟩, rfl⟩
      · rw [if_neg (fun z => c2 ((nz_m1 (hb j)).mp z))]
        exact skip (fun z => c2 z.2)
    · rw [if_pos (h10f (by omega) c1)]
      exact skip (fun z => c1 ((hS j).mpr z.1))
theorem DI_b (hN : g_N A V) {r k : Nat} {st : List Nat} {nu pa : Nat → Nat} (h : DI A V r st k nu pa) (p : Nat) : nu p < 2 ^ 31 ∧ (p < 8 → pa p < 2 ^ 31) := by
  by_cases c : nu p = 99
  · exact ⟨by omega, fun _ => by have := h.2.2.2.2.2.2.2.2.2.2.2 p c; omega⟩
  · have := DI_lt hN h c
    refine ⟨by omega, fun _ => ?_⟩
    by_cases e : p = r
    · rw [e, h.2.2.2.2.2.2.2.2.1]; decide
    · have := (h.2.2.2.2.2.2.2.1 p c e).2; omega
theorem walk_2 (hN : g_N A V) {r : Nat} {Q : Option mX → Prop} (kk : mX → Option mX) : ∀ m st k nu pa (x : mX) j n M, 2 * (8 - k) + st.length = m → j + m ≤ 15 → m < n → m < M → (∀ p, p < 8 → ∀ q, bt (x.1 229 p) q = true ↔ A p q) → DI A V r st k nu pa → wk_X x k nu pa → (∀ x' R, ds A M st k nu pa R → DI A V r [] R.2.2 R.1 R.2.1 → wk_X x' R.2.2 R.1 R.2.1 → xF wk_W x x' → Q (kk x')) → Q (f_X9_from_L52 n (pz (bk st)) (nI j) x kk) := by
  intro m
  induction m with
  | zero =>
    intro st k nu pa x j n M h1 h2 h3 h4 hn hD hx hq
    cases n with
    | zero => omega
    | succ n =>
      cases M with
      | zero => omega
      | succ M =>
        have : st = [] := List.length_eq_zero_iff.mp (by omega)
        subst this
        rw [f_X9_from_L52, if_neg (k16f (by omega)), if_pos (show pz (bk []) < 0 by rw [show bk [] = 98 from rfl, pz_98]; decide)]
        exact hq x (nu, pa, k) rfl hD hx (xF_rf _ _)
  | succ m ih =>
    intro st k nu pa x j n M h1 h2 h3 h4 hn hD hx hq
    cases n with
    | zero => omega
    | succ n =>
      cases M with
      | zero => omega
      | succ M =>
        cases st with
        | nil =>
          rw [f_X9_from_L52, if_neg (k16f (by omega)), if_pos (show pz (bk []) < 0 by rw [show bk [] = 98 from rfl, pz_98]; decide)]
          exact hq x (nu, pa, k) rfl hD hx (xF_rf _ _)
        | cons a s =>
          have ha := DI_lt hN hD (hD.2.2.1 a (List.mem_cons_self ..))
          have hk8 := DI_k hN hD
          rw [f_X9_from_L52, if_neg (k16f (by omega)), show bk (a :: s) = a from rfl, pz_ok (by omega), if_neg (nI_pos (by omega)), if_pos (in_ok ha.1 (by decide)), cl (by omega), nI_1]
          have hlen : (a :: s).length = s.length + 1 := rfl
          rcases lowestNew_ok (a := a) hN (hn a ha.1) x (fun p hp => (hx.2.1 p hp).1) (fun p => (DI_b hN hD p).1) with ⟨t, t1, t2⟩ | ⟨t1, t2⟩
          · have ht8 : t < 8 := hN.2.2 t (hN.2.1 _ _ t1.1).2.1
            have hD' := DI_push hN hD t1
            have hk' := DI_k hN hD'
            have hmx := meet_X ht8 (by omega) a hx t1.2.1 (fun p hp => (hD.2.2.2.1 p hp).1)
            rw [pz_ok (by omega)] at hmx
            rw [t2, Option.bind_some, if_neg (nI_m1 (by omega)), meet_ok ht8 (by omega) (nI a) x hx.1, Option.bind_some]
            have e : nI t = pz (bk (t :: a :: s)) := (pz_ok (by omega)).symm
            rw [show f_X9_from_L52 n (nI t) = f_X9_from_L52 n (pz (bk (t :: a :: s))) by rw [e]]
            refine ih (t :: a :: s) (k + 1) _ _ _ (j + 1) n M (by simp only [List.length_cons] at h1 ⊢; omega) (by omega) (by omega) (by omega) (by rw [wk_229 hmx.2]; exact hn) hD' hmx.1 (fun x' R r1 r2 r3 r4 => hq x' R (Or.inl ⟨t, t1, r1⟩) r2 r3 (xF_tr hmx.2 r4))
          · rw [t2, Option.bind_some, if_pos rfl, if_pos (in_ok ha.1 (by decide)), (hx.2.1 a ha.1).2, (ch_cons.mp hD.2.1).1]
            exact ih s k nu pa x (j + 1) n M (by simp only [List.length_cons] at h1; omega) (by omega) (by omega) (by omega) hn (DI_pop hD t1) hx (fun x' R r1 r2 r3 r4 => hq x' R (Or.inr ⟨t1, r1⟩) r2 r3 r4)
/-! LOW -/
theorem lw_cong {nu pa lo lo' : Nat → Nat} {v : Nat} (h0 : lo' v = lo v) (hc : ∀ p, A v p → pa p = v → lo' p = lo p) (h : lw A nu pa lo v) : lw A nu pa lo' v := by
  obtain ⟨a1, a2, a3⟩ := h
  refine ⟨?_, by rw [h0]; exact a2, fun p p1 p2 => ?_⟩
  · rw [h0]
    rcases a1 with e | ⟨p, p1, p2, e | ⟨p3, e⟩⟩
    · exact Or.inl e
    · exact Or.inr ⟨p, p1, p2, Or.inl e⟩
    · exact Or.inr ⟨p, p1, p2, Or.inr ⟨p3, by rw [hc p p1 p3]; exact e⟩⟩
  · rw [h0]
    refine ⟨(a3 p p1 p2).1, fun p3 => ?_⟩
    rw [hc p p1 p3]
    exact (a3 p p1 p2).2 p3
theorem min_ok {a b : Nat} (ha : a < 2 ^ 31) (hb : b < 2 ^ 31) : (if nI a < nI b then nI a else nI b) = nI (min a b) := by
  by_cases c : a < b
  · rw [if_pos ((nI_ltI ha hb).mpr c), Nat.min_eq_left (by omega)]
  · rw [if_neg (fun z => c ((nI_ltI ha hb).mp z)), Nat.min_eq_right (by omega)]
/-- the least of what is seen up to j -/
def lw_s (A : Nat → Nat → Prop) (nu pa lo : Nat → Nat) (v j m : Nat) : Prop := (m = nu v ∨ ∃ p, p < j ∧ A v p ∧ p ≠ pa v ∧ (m = nu p ∨ (pa p = v ∧ m = lo p))) ∧ m ≤ nu v ∧ ∀ p, p < j → A v p → p ≠ pa v → m ≤ nu p ∧ (pa p = v → m ≤ lo p)
theorem lowOf_ok (hN : g_N A V) {r k v : Nat} {nu pa lo : Nat → Nat} (x : mX) (hD : DI A V r [] k nu pa) (hn : ∀ p, p < 8 → ∀ q, bt (x.1 229 p) q = true ↔ A p q) (hx : wk_X x k nu pa) (hv : nu v ≠ 99) (hlo : ∀ p, A v p → pa p = v → x.1 243 p = nI (lo p) ∧ lo p ≤ nu p) : ∃ m, f_X9_lowOf (nI v) x = some (nI m) ∧ lw_s A nu pa lo v 8 m := by
  have hv8 := DI_lt hN hD hv
  unfold f_X9_lowOf
  rw [if_pos (in_ok hv8.1 (by decide)), cl (by omega), (hx.2.1 v hv8.1).1, nz_ok hv]
  refine lp_up 8 (fun n b (m : Nat) => f_X9_lowOf_L10 (nI v) n (nI m) b x) (fun j m => lw_s A nu pa lo v j m) (fun o => ∃ m, o = some (nI m) ∧ lw_s A nu pa lo v 8 m) ?_ ?_ mF 0 (nu v) (by decide) (by decide) ⟨Or.inl rfl, Nat.le_refl _, fun p hp => by omega⟩
  · intro n m hI
    show ∃ m', f_X9_lowOf_L10 (nI v) (n + 1) (nI m) (nI 8) x = some (nI m') ∧ _
    rw [f_X9_lowOf_L10, if_pos (by decide)]
    exact ⟨m, rfl, hI⟩
  · intro n j m hj hI ih
    show ∃ m', f_X9_lowOf_L10 (nI v) (n + 1) (nI m) (nI j) x = some (nI m') ∧ _
    obtain ⟨i1, i2, i3⟩ := hI
    rw [f_X9_lowOf_L10, if_neg (k8f hj), if_pos (in_ok hv8.1 (by decide)), cl (by omega), nI_1]
    have skip : ¬ (A v j ∧ j ≠ pa v) → ∃ m', f_X9_lowOf_L10 (nI v) n (nI m) (nI (j + 1)) x = some (nI m') ∧ lw_s A nu pa lo v 8 m' := by
      intro hno
      refine ih m ⟨?_, i2, fun p hp p1 p2 => ?_⟩
      · rcases i1 with e | ⟨p, p0, p1, p2, p3⟩
        · exact Or.inl e
        · exact Or.inr ⟨p, by omega, p1, p2, p3⟩
      · by_cases e : p = j
        · exact absurd ⟨e ▸ p1, e ▸ p2⟩ hno
        · exact i3 p (by omega) p1 p2
    by_cases c1 : bt (x.1 229 v) j = true
    · have hA := (hn v hv8.1 j).mp c1
      rw [if_neg (h10t (by omega) c1), if_pos (in_ok hv8.1 (by decide)), (hx.2.1 v hv8.1).2]
      have hb := DI_b hN hD v
      by_cases c2 : j = pa v
      · rw [if_pos ((pz_eq hj (hb.2 hv8.1)).mpr c2)]
        exact skip (fun z => z.2 c2)
      · rw [if_neg (fun z => c2 ((pz_eq hj (hb.2 hv8.1)).mp z)), if_pos (in_ok hj (by decide)), cl (by omega), (hx.2.1 j hj).2]
        have hjm : nu j ≠ 99 := hD.2.2.2.2.2.2.1 v hv (by simp) j hA
        have hj8 := DI_lt hN hD hjm
        have hbj := DI_b hN hD j
        have take : ∀ w, (w = nu j ∨ (pa j = v ∧ w = lo j)) → w ≤ nu j → (pa j = v → w ≤ lo j) → ∃ m', f_X9_lowOf_L10 (nI v) n (nI (min w m)) (nI (j + 1)) x = some (nI m') ∧ lw_s A nu pa lo v 8 m' := by
          intro w w1 w2 w3
          refine ih _ ⟨?_, by omega, fun p hp p1 p2 => ?_⟩
          · by_cases c : w ≤ m
            · rw [Nat.min_eq_left c]
              exact Or.inr ⟨j, by omega, hA, c2, w1⟩
            · rw [Nat.min_eq_right (by omega)]
              rcases i1 with e | ⟨p, p0, p1, p2, p3⟩
              · exact Or.inl e
              · exact Or.inr ⟨p, by omega, p1, p2, p3⟩
          · by_cases e : p = j
            · subst e
              exact ⟨by omega, fun z => by have := w3 z; omega⟩
            · have := i3 p (by omega) p1 p2
              exact ⟨by omega, fun z => by have := this.2 z; omega⟩
        by_cases c3 : pa j = v
        · rw [if_pos (by rw [c3, pz_ok (by omega)]), if_pos (in_ok hj (by decide)), (hlo j hA c3).1, min_ok (by have := (hlo j hA c3).2; omega) (by omega)]
          exact take (lo j) (Or.inr ⟨c3, rfl⟩) (hlo j hA c3).2 (fun _ => Nat.le_refl _)
        · rw [if_neg (fun z => c3 ((pz_eq hv8.1 (hbj.2 hj)).mp z.symm).symm), if_pos (in_ok hj (by decide)), (hx.2.1 j hj).1, nz_ok hjm, min_ok (by omega) (by omega)]
          exact take (nu j) (Or.inl rfl) (Nat.le_refl _) (fun z => absurd z c3)
    · rw [if_pos (h10f (by omega) c1)]
      exact skip (fun z => c1 ((hn v hv8.1 j).mpr z.1))
theorem lw_of {nu pa lo : Nat → Nat} {v : Nat} (hN : g_N A V) (h : lw_s A nu pa lo v 8 (lo v)) : lw A nu pa lo v := by
  obtain ⟨a1, a2, a3⟩ := h
  refine ⟨?_, a2, fun p p1 => a3 p (hN.2.2 p (hN.2.1 _ _ p1).2.1) p1⟩
  rcases a1 with e | ⟨p, _, p1, p2, p3⟩
  · exact Or.inl e
  · exact Or.inr ⟨p, p1, p2, p3⟩
theorem walk_3 (hN : g_N A V) {r k : Nat} {nu pa : Nat → Nat} (hD : DI A V r [] k nu pa) : ∀ i n (lo : Nat → Nat) (x : mX), i ≤ k → i < n → (∀ p, p < 8 → ∀ q, bt (x.1 229 p) q = true ↔ A p q) → wk_X x k nu pa → (∀ p, nu p ≠ 99 → i ≤ nu p → x.1 243 p = nI (lo p) ∧ lw A nu pa lo p) → ∃ x' lo', f_X9_from_L115 n (nI i - 1) x = some x' ∧ xF wk_W x x' ∧ wk_X x' k nu pa ∧ ∀ p, nu p ≠ 99 → x'.1 243 p = nI (lo' p) ∧ lw A nu pa lo' p := by
  intro i
  induction i with
  | zero =>
    intro n lo x hi hn hnear hx hlo
    cases n with
    | zero => omega
    | succ n =>
      rw [f_X9_from_L115, if_pos (by decide)]
      exact ⟨x, lo, rfl, xF_rf _ _, hx, fun p hp => hlo p hp (Nat.zero_le _)⟩
  | succ i ih =>
    intro n lo x hi hn hnear hx hlo
    cases n with
    | zero => omega
    | succ n =>
      have hk8 := DI_k hN hD
      obtain ⟨v, hv⟩ := hD.2.2.2.2.2.1 i (by omega)
      have hvm : nu v ≠ 99 := by omega
      have hv8 := DI_lt hN hD hvm
      have e244 : x.1 244 i = nI v := by rw [← hv]; exact hx.2.2 v hvm
      rw [f_X9_from_L115, nI_p (by omega), show i + 1 - 1 = i by omega, if_neg (nI_pos (by omega)), if_pos (in_ok (by omega) (by decide)), if_pos (in_ok (by omega) (by decide)), cl (by omega), e244]
      have child : ∀ p, A v p → pa p = v → i + 1 ≤ nu p ∧ nu p ≠ 99 := fun p hA hp => by
        have hpm : nu p ≠ 99 := hD.2.2.2.2.2.2.1 v hvm (by simp) p hA
        have hpr : p ≠ r := fun e => by
          have := hD.2.2.2.2.2.2.2.2.1
          rw [e, this] at hp
          omega
        have := (hD.2.2.2.2.2.2.2.1 p hpm hpr).1
        rw [hp] at this
        exact ⟨by omega, hpm⟩
      obtain ⟨m, m1, m2⟩ := lowOf_ok (lo := lo) hN x hD hnear hx hvm (fun p hA hp => by
        have c := child p hA hp
        have := hlo p c.2 c.1
        exact ⟨this.1, this.2.2.1⟩)
      rw [m1, Option.bind_some, if_pos (in_ok hv8.1 (by decide)), cl (by omega), m_let]
      have F1 : xF wk_W x (m_xs x 243 v (nI m)) := xF_set (xF_rf _ _) (Or.inr ⟨by omega, by omega⟩)
      have hvc : ∀ p, A v p → pa p = v → up lo v m p = lo p := fun p hA hp => up_ne (fun e => by
        have := child p hA hp
        rw [e] at this
        omega)
      have hlv : lw A nu pa (up lo v m) v := by
        refine lw_of hN ?_
        rw [up_eq]
        obtain ⟨a1, a2, a3⟩ := m2
        refine ⟨?_, a2, fun p hp p1 p2 => ⟨(a3 p hp p1 p2).1, fun p3 => by rw [hvc p p1 p3]; exact (a3 p hp p1 p2).2 p3⟩⟩
        rcases a1 with e | ⟨p, p0, p1, p2, e | ⟨p3, e⟩⟩
        · exact Or.inl e
        · exact Or.inr ⟨p, p0, p1, p2, Or.inl e⟩
        · exact Or.inr ⟨p, p0, p1, p2, Or.inr ⟨p3, by rw [hvc p p1 p3]; exact e⟩⟩
      have e1 : nI i + (-1) = nI i - 1 := by
        rw [Int32.sub_eq_add_neg]
      rw [e1]
      obtain ⟨x', lo', r1, r2, r3, r4⟩ := ih n (up lo v m) (m_xs x 243 v (nI m)) (by omega) (by omega) (by rw [xs_ne (by decide)]; exact hnear) ⟨by rw [xs_ne (by decide)]; exact hx.1, fun p hp => by rw [xs_ne (by decide), xs_ne (by decide)]; exact hx.2.1 p hp, fun p hp => by rw [xs_ne (by decide)]; exact hx.2.2 p hp⟩ (fun p hp hpi => by
        rw [xs_at]
        by_cases e : p = v
        · rw [if_pos e, e, up_eq]
          exact ⟨rfl, hlv⟩
        · have hne : nu p ≠ i := fun z => e (hD.2.2.2.2.1 p v hp (by omega))
          have q := hlo p hp (by omega)
          rw [if_neg e, up_ne e]
          refine ⟨q.1, lw_cong (up_ne e) (fun c hA hc => up_ne (fun z => ?_)) q.2⟩
          have hcm : nu c ≠ 99 := hD.2.2.2.2.2.2.1 p hp (by simp) c hA
          have hcr : c ≠ r := fun e => by
            have := hD.2.2.2.2.2.2.2.2.1
            have := (DI_lt hN hD hp).1
            rw [e] at hc
            omega
          have := (hD.2.2.2.2.2.2.2.1 c hcm hcr).1
          rw [hc, z] at this
          omega)
      exact ⟨x', lo', r1, xF_tr F1 r2, r3, r4⟩
/-- what a search tells of the posts of r's piece -/
def se_A (A : Nat → Nat → Prop) (V : Nat → Prop) (r : Nat) (R : (Nat → Nat) × (Nat → Nat) × Nat) : Prop := ds A 20 [r] 1 (fun p => if p = r then 0 else 99) (fun p => if p = r then 98 else 99) R ∧ DI A V r [] R.2.2 R.1 R.2.1
theorem walk_ok (hN : g_N A V) {r : Nat} (hr : V r) (x : mX) (hn : ∀ p, p < 8 → ∀ q, bt (x.1 229 p) q = true ↔ A p q) : ∃ x' R lo, f_X9_from (nI r) x = some x' ∧ xF wk_W x x' ∧ se_A A V r R ∧ wk_X x' R.2.2 R.1 R.2.1 ∧ ∀ p, R.1 p ≠ 99 → x'.1 243 p = nI (lo p) ∧ lw A R.1 R.2.1 lo p := by
  have hr8 := hN.2.2 r hr
  unfold f_X9_from
  rw [m_let]
  refine walk_1 (Q := fun o => ∃ x' R lo, o = some x' ∧ xF wk_W x x' ∧ se_A A V r R ∧ wk_X x' R.2.2 R.1 R.2.1 ∧ ∀ p, R.1 p ≠ 99 → x'.1 243 p = nI (lo p) ∧ lw A R.1 R.2.1 lo p) _ _ ?_
  intro x5 F5 e5 h5
  rw [xs_eq] at e5
  have F5' : xF wk_W x x5 := xF_tr (xF_set (xF_rf _ _) (Or.inl ⟨rfl, rfl⟩)) F5
  have hx0 : wk_X x5 0 (fun _ => 99) (fun _ => 99) := ⟨e5, fun p hp => ⟨by rw [nz_99]; exact (h5 p hp).1, by rw [pz_99]; exact (h5 p hp).2⟩, fun p hp => absurd rfl hp⟩
  have hm := meet_X (k := 0) hr8 (by omega) 98 hx0 rfl (fun p hp => absurd rfl hp)
  rw [pz_98] at hm
  rw [meet_ok hr8 (k := 0) (by omega) (-2) x5 e5, Option.bind_some]
  have eu : up (fun _ => 99) r 0 = fun p => if p = r then 0 else 99 := rfl
  have ep : up (fun _ => 99) r 98 = fun p => if p = r then 98 else 99 := rfl
  rw [eu, ep] at hm
  have hn6 : ∀ p, p < 8 → ∀ q, bt ((m_xs (m_xs (m_xs (m_xs x5 241 r (nI 0)) 242 r (-2)) 244 0 (nI r)) 240 4 (nI (0 + 1))).1 229 p) q = true ↔ A p q := by
    rw [wk_229 hm.2, wk_229 F5']; exact hn
  have e0 : nI r = pz (bk [r]) := (pz_ok (by omega)).symm
  have hmF : 20 < mF := by decide
  rw [show f_X9_from_L52 mF (nI r) = f_X9_from_L52 mF (pz (bk [r])) by rw [e0]]
  refine walk_2 (A := A) (V := V) (r := r) (Q := fun o => ∃ x' R lo, o = some x' ∧ xF wk_W x x' ∧ se_A A V r R ∧ wk_X x' R.2.2 R.1 R.2.1 ∧ ∀ p, R.1 p ≠ 99 → x'.1 243 p = nI (lo p) ∧ lw A R.1 R.2.1 lo p) hN _ 15 [r] 1 (fun p => if p = r then 0 else 99) (fun p => if p = r then 98 else 99) _ 0 mF 20 rfl (by omega) (by omega) (by omega) hn6 (DI_0 hr) hm.1 ?_
  intro x9 R r1 r2 r3 r4
  have hk8 := DI_k hN r2
  rw [r3.1]
  obtain ⟨x', lo, q1, q2, q3, q4⟩ := walk_3 hN r2 R.2.2 mF (fun _ => 0) x9 (Nat.le_refl _) (by omega) (by rw [wk_229 r4]; exact hn6) r3 (fun p hp hpi => by
    have := (r2.2.2.2.1 p hp).1
    omega)
  exact ⟨x', R, lo, q1, xF_tr F5' (xF_tr hm.2 (xF_tr r4 q2)), ⟨r1, r2⟩, q3, q4⟩
end D2
