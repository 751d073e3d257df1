/-! ===== the reference's search ===== -/
section D3
variable {A : Nat → Nat → Prop} {V : Nat → Prop}
def sy_W (q c : Nat) : Prop := 302 ≤ q ∧ q ≤ 304
def sy_Y (y : mY) (nu pa : Nat → Nat) : Prop := (∀ p, p < 8 → y.1 302 p = nz (nu p)) ∧ ∀ p, nu p ≠ 99 → y.1 303 p = pz (pa p)
theorem sub1 (i : Nat) : nI i + (-1) = nI i - 1 := (Int32.sub_eq_add_neg ..).symm
theorem search_L59 (hN : g_N A V) {a : Nat} (ha : a < 8) (y : mY) (hE : ∀ q, q < 8 → (A a q ↔ bt (y.1 293 (8 + a)) q = true)) {nu : Nat → Nat} (hx : ∀ p, p < 8 → y.1 302 p = nz (nu p)) (hb : ∀ p, nu p < 2 ^ 31) {Q : Option mY → Prop} (kk : Int32 → Option mY) (h1 : ∀ t, ln A nu a t → Q (kk (nI t))) (h2 : (∀ q, A a q → nu q ≠ 99) → Q (kk (-1))) : ∀ i n w, i ≤ 8 → i < n → ((w = -1 ∧ ∀ q, i ≤ q → A a q → nu q ≠ 99) ∨ ∃ t, w = nI t ∧ i ≤ t ∧ A a t ∧ nu t = 99 ∧ ∀ q, i ≤ q → q < t → A a q → nu q ≠ 99) → Q (f_X11_searches_L59 (nI a) n w (nI i - 1) y kk) := by
  intro i
  induction i with
  | zero =>
    intro n w hi hn hw
    cases n with
    | zero => omega
    | succ n =>
      rw [f_X11_searches_L59, if_pos (by decide)]
      rcases hw with ⟨w1, w2⟩ | ⟨t, w1, w2, w3, w4, w5⟩
      · rw [w1]; exact h2 (fun q hq => w2 q (Nat.zero_le _) hq)
      · rw [w1]; exact h1 t ⟨w3, w4, fun q hq hA => w5 q (Nat.zero_le _) hq hA⟩
  | succ i ih =>
    intro n w hi hn hw
    cases n with
    | zero => omega
    | succ n =>
      rw [f_X11_searches_L59, nI_p (by omega), show i + 1 - 1 = i by omega, if_neg (nI_pos (by omega)), a8, if_pos (in_ok (by omega) (by decide)), cl (by omega), sub1]
      have keep : ¬ (A a i ∧ nu i = 99) → Q (f_X11_searches_L59 (nI a) n w (nI i - 1) y kk) := by
        intro hno
        refine ih n w (by omega) (by omega) ?_
        rcases hw with ⟨w1, w2⟩ | ⟨t, w1, w2, w3, w4, w5⟩
        · refine Or.inl ⟨w1, fun q hq hA => ?_⟩
          by_cases e : q = i
          · subst e; exact fun z => hno ⟨hA, z⟩
          · exact w2 q (by omega) hA
        · refine Or.inr ⟨t, w1, by omega, w3, w4, fun q hq hqt hA => ?_⟩
          by_cases e : q = i
          · subst e; exact fun z => hno ⟨hA, z⟩
          · exact w5 q (by omega) hqt hA
      by_cases c1 : bt (y.1 293 (8 + a)) i = true
      · rw [if_neg (h11t (by omega) c1), if_pos (in_ok (by omega) (by decide)), cl (by omega), hx i (by omega)]
        have hA := (hE i (by omega)).mpr c1
        by_cases c2 : nu i = 99
        · rw [if_neg (show ¬ 0 ≤ nz (nu i) by rw [c2, nz_99]; decide)]
          exact ih n _ (by omega) (by omega) (Or.inr ⟨i, rfl, Nat.le_refl _, hA, c2, fun q hq hqt => by omega⟩)
        · rw [if_pos (show 0 ≤ nz (nu i) by rw [nz_ok c2]; exact nI_pos' (hb i))]
          exact keep (fun z => c2 z.2)
      · rw [if_pos (h11f (by omega) c1)]
        exact keep (fun z => c1 ((hE i (by omega)).mp z.1))
theorem minle_ok {a b : Nat} (ha : a < 2 ^ 31) (hb : b < 2 ^ 31) {β : Type} (k : Int32 → β) : (if nI a ≤ nI b then k (nI a) else k (nI b)) = k (nI (min a b)) := by
  by_cases c : a ≤ b
  · rw [if_pos ((nI_leI ha hb).mpr c), Nat.min_eq_left c]
  · rw [if_neg (fun z => c ((nI_leI ha hb).mp z)), Nat.min_eq_right (by omega)]
theorem search_L142 (hN : g_N A V) {r k v : Nat} {st : List Nat} {nu pa lo : Nat → Nat} (y : mY) (hD : DI A V r st k nu pa) (hE : ∀ q, q < 8 → (A v q ↔ bt (y.1 293 (8 + v)) q = true)) (hy : sy_Y y nu pa) (hv : nu v ≠ 99) (hall : ∀ q, A v q → nu q ≠ 99) (hlo : ∀ p, A v p → pa p = v → y.1 304 p = nI (lo p) ∧ lo p ≤ nu p) {Q : Option mY → Prop} (kk : Int32 → Option mY) (hq : ∀ m, lw_s A nu pa lo v 8 m → Q (kk (nI m))) : Q (f_X11_searches_L142 (nI v) mF (nI (nu v)) 0 y kk) := by
  have hv8 := DI_lt hN hD hv
  refine lp_up 8 (fun n b (m : Nat) => f_X11_searches_L142 (nI v) n (nI m) b y kk) (fun j m => lw_s A nu pa lo v j m) Q ?_ ?_ mF 0 (nu v) (by decide) (by decide) ⟨Or.inl rfl, Nat.le_refl _, fun p hp => by omega⟩
  · intro n m hI
    show Q (f_X11_searches_L142 (nI v) (n + 1) (nI m) (nI 8) y kk)
    rw [f_X11_searches_L142, if_pos (by decide)]
    exact hq m hI
  · intro n j m hj hI ih
    show Q (f_X11_searches_L142 (nI v) (n + 1) (nI m) (nI j) y kk)
    obtain ⟨i1, i2, i3⟩ := hI
    rw [f_X11_searches_L142, if_neg (k8f hj), a8, if_pos (in_ok (by omega) (by decide)), cl (by omega), nI_1]
    have skip : ¬ (A v j ∧ j ≠ pa v) → Q (f_X11_searches_L142 (nI v) n (nI m) (nI (j + 1)) y kk) := by
      intro hno
      refine ih m ⟨?_, i2, fun p hp p1 p2 => ?_⟩
      · rcases i1 with e | ⟨p, p0, p1, p2, p3⟩
        · exact Or.inl e
        · exact Or.inr ⟨p, by omega, p1, p2, p3⟩
      · by_cases e : p = j
        · exact absurd ⟨e ▸ p1, e ▸ p2⟩ hno
        · exact i3 p (by omega) p1 p2
    by_cases c1 : bt (y.1 293 (8 + v)) j = true
    · have hA := (hE j hj).mpr c1
      have hb := DI_b hN hD v
      rw [if_neg (h11t (by omega) c1), if_pos (in_ok hv8.1 (by decide)), cl (by omega), hy.2 v hv]
      by_cases c2 : j = pa v
      · rw [if_pos ((pz_eq hj (hb.2 hv8.1)).mpr c2)]
        exact skip (fun z => z.2 c2)
      · have hjm : nu j ≠ 99 := hall j hA
        have hj8 := DI_lt hN hD hjm
        have hbj := DI_b hN hD j
        rw [if_neg (fun z => c2 ((pz_eq hj (hb.2 hv8.1)).mp z)), if_pos (in_ok hj (by decide)), m_jn, cl (by omega), hy.1 j hj, nz_ok hjm]
        have take : ∀ w, w ≤ nu j → (pa j = v → w ≤ lo j) → (w = nu j ∨ (pa j = v ∧ w = lo j)) → Q (f_X11_searches_L142 (nI v) n (nI (min m w)) (nI (j + 1)) y kk) := by
          intro w w2 w3 w1
          refine ih _ ⟨?_, by omega, fun p hp p1 p2 => ?_⟩
          · by_cases c : m ≤ w
            · rw [Nat.min_eq_left c]
              rcases i1 with e | ⟨p, p0, p1, p2, p3⟩
              · exact Or.inl e
              · exact Or.inr ⟨p, by omega, p1, p2, p3⟩
            · rw [Nat.min_eq_right (by omega)]
              exact Or.inr ⟨j, by omega, hA, c2, w1⟩
          · by_cases e : p = j
            · subst e
              exact ⟨by omega, fun z => by have := w3 z; omega⟩
            · have := i3 p (by omega) p1 p2
              exact ⟨by omega, fun z => by have := this.2 z; omega⟩
        have fin : Q (if m_in (nI j) 8 = true then (if y.1 303 j = nI v then (if m_in (nI j) 8 = true then (if nI (min m (nu j)) ≤ y.1 304 j then (f_X11_searches_L142 (nI v) n (nI (min m (nu j))) (nI (j + 1)) y kk) else (if m_in (nI j) 8 = true then (f_X11_searches_L142 (nI v) n (y.1 304 j) (nI (j + 1)) y kk) else none)) else none) else (f_X11_searches_L142 (nI v) n (nI (min m (nu j))) (nI (j + 1)) y kk)) else none) := by
          rw [if_pos (in_ok hj (by decide)), hy.2 j hjm]
          by_cases c3 : pa j = v
          · have hl := hlo j hA c3
            rw [if_pos (by rw [c3, pz_ok (by omega)]), if_pos (in_ok hj (by decide)), hl.1, if_pos (in_ok hj (by decide)), minle_ok (by omega) (by omega) (fun w => f_X11_searches_L142 (nI v) n w (nI (j + 1)) y kk)]
            have : min (min m (nu j)) (lo j) = min m (lo j) := by omega
            rw [this]
            exact take (lo j) hl.2 (fun _ => Nat.le_refl _) (Or.inr ⟨c3, rfl⟩)
          · rw [if_neg (fun z => c3 ((pz_eq hv8.1 (hbj.2 hj)).mp z.symm).symm)]
            exact take (nu j) (Nat.le_refl _) (fun z => absurd z c3) (Or.inl rfl)
        by_cases c4 : m ≤ nu j
        · rw [if_pos ((nI_leI (by omega) (by omega)).mpr c4)]
          rw [Nat.min_eq_left c4] at fin
          exact fin
        · rw [if_neg (fun z => c4 ((nI_leI (by omega) (by omega)).mp z)), if_pos (in_ok hj (by decide))]
          rw [Nat.min_eq_right (by omega)] at fin
          exact fin
    · rw [if_pos (h11f (by omega) c1)]
      exact skip (fun z => c1 ((hE j hj).mp z.1))
theorem lw_up {nu pa lo : Nat → Nat} {p t k a : Nat} (hp : p ≠ t) (hq : ∀ q, A p q → q ≠ t) (h : lw A nu pa lo p) : lw A (up nu t k) (up pa t a) lo p := by
  obtain ⟨a1, a2, a3⟩ := h
  refine ⟨?_, by rw [up_ne hp]; exact a2, fun q q1 q2 => ?_⟩
  · rw [up_ne hp, up_ne hp]
    rcases a1 with e | ⟨q, q1, q2, e⟩
    · exact Or.inl e
    · exact Or.inr ⟨q, q1, q2, by rw [up_ne (hq q q1), up_ne (hq q q1)]; exact e⟩
  · rw [up_ne hp] at q2
    rw [up_ne (hq q q1), up_ne (hq q q1)]
    exact a3 q q1 q2
/-- LOWS of those gone back from -/
def lo_Y (A : Nat → Nat → Prop) (y : mY) (st : List Nat) (nu pa lo : Nat → Nat) : Prop := ∀ p, nu p ≠ 99 → ¬ p ∈ st → y.1 304 p = nI (lo p) ∧ lw A nu pa lo p
theorem searches_2 (hN : g_N A V) {r : Nat} : ∀ m st k nu pa lo (y : mY) n M, 2 * (8 - k) + st.length = m → m < n → m < M → (∀ p q, p < 8 → q < 8 → (A p q ↔ bt (y.1 293 (8 + p)) q = true)) → DI A V r st k nu pa → sy_Y y nu pa → lo_Y A y st nu pa lo → ∃ y' R lo', f_X11_searches_L46 n (nI k) (pz (bk st)) y = some y' ∧ ds A M st k nu pa R ∧ DI A V r [] R.2.2 R.1 R.2.1 ∧ sy_Y y' R.1 R.2.1 ∧ lo_Y A y' [] R.1 R.2.1 lo' ∧ yF sy_W y y' := by
  intro m
  induction m with
  | zero =>
    intro st k nu pa lo y n M h1 h2 h3 hE hD hy hl
    cases n with
    | zero => omega
    | succ n =>
      cases M with
      | zero => omega
      | succ M =>
        have : st = [] := List.length_eq_zero_iff.mp (by omega)
        subst this
        rw [f_X11_searches_L46, if_pos (show pz (bk []) = -2 from pz_98)]
        exact ⟨y, (nu, pa, k), lo, rfl, rfl, hD, hy, hl, yF_rf _ _⟩
  | succ m ih =>
    intro st k nu pa lo y n M h1 h2 h3 hE hD hy hl
    cases n with
    | zero => omega
    | succ n =>
      cases M with
      | zero => omega
      | succ M =>
        cases st with
        | nil =>
          rw [f_X11_searches_L46, if_pos (show pz (bk []) = -2 from pz_98)]
          exact ⟨y, (nu, pa, k), lo, rfl, rfl, hD, hy, hl, yF_rf _ _⟩
        | cons a s =>
          have ham := hD.2.2.1 a (List.mem_cons_self ..)
          have ha := DI_lt hN hD ham
          have hk8 := DI_k hN hD
          have hmF : 8 < mF := by decide
          rw [f_X11_searches_L46, show bk (a :: s) = a from rfl, pz_ok (by omega), if_neg (nI_m2 (by omega))]
          refine search_L59 (Q := fun o => ∃ y' R lo', o = some y' ∧ ds A (M + 1) (a :: s) k nu pa R ∧ DI A V r [] R.2.2 R.1 R.2.1 ∧ sy_Y y' R.1 R.2.1 ∧ lo_Y A y' [] R.1 R.2.1 lo' ∧ yF sy_W y y') hN ha.1 y (fun q hq => hE a q ha.1 hq) hy.1 (fun p => (DI_b hN hD p).1) _ ?_ ?_ 8 mF (-1) (by omega) (by omega) (Or.inl ⟨rfl, fun q hq hA => by have := hN.2.2 q (hN.2.1 _ _ hA).2.1; omega⟩)
          · intro t t1
            have ht8 : t < 8 := hN.2.2 t (hN.2.1 _ _ t1.1).2.1
            have hD' := DI_push hN hD t1
            have hk' := DI_k hN hD'
            have hnt : ∀ p, nu p ≠ 99 → p ≠ t := fun p hp e => hp (e ▸ t1.2.1)
            rw [if_neg (nI_pos (by omega)), if_pos (in_ok ht8 (by decide)), cl (by omega), m_let, if_pos (in_ok ht8 (by decide)), m_let, nI_1]
            have e : nI t = pz (bk (t :: a :: s)) := (pz_ok (by omega)).symm
            rw [show f_X11_searches_L46 n (nI (k + 1)) (nI t) = f_X11_searches_L46 n (nI (k + 1)) (pz (bk (t :: a :: s))) by rw [e]]
            have F1 : yF sy_W y (m_ys (m_ys y 302 t (nI k)) 303 t (nI a)) := yF_set (yF_set (yF_rf _ _) ⟨by omega, by omega⟩) ⟨by omega, by omega⟩
            obtain ⟨y', R, lo', r1, r2, r3, r4, r5, r6⟩ := ih (t :: a :: s) (k + 1) (up nu t k) (up pa t a) lo (m_ys (m_ys y 302 t (nI k)) 303 t (nI a)) n M (by simp only [List.length_cons] at h1 ⊢; omega) (by omega) (by omega) (by rw [ys_ne (by decide), ys_ne (by decide)]; exact hE) hD' ⟨fun p hp => by
              rw [ys_ne (by decide), ys_at]
              by_cases e : p = t
              · rw [if_pos e, e, up_eq, nz_ok (by omega)]
              · rw [if_neg e, up_ne e]; exact hy.1 p hp, fun p hp => by
              rw [ys_at]
              by_cases e : p = t
              · rw [if_pos e, e, up_eq, pz_ok (by omega)]
              · rw [if_neg e, ys_ne (by decide), up_ne e]
                rw [up_ne e] at hp
                exact hy.2 p hp⟩ (fun p hp hs => by
              have hpt : p ≠ t := fun e => hs (List.mem_cons.mpr (Or.inl e))
              rw [up_ne hpt] at hp
              have hs' : ¬ p ∈ a :: s := fun z => hs (List.mem_cons_of_mem _ z)
              have q := hl p hp hs'
              rw [ys_ne (by decide), ys_ne (by decide)]
              exact ⟨q.1, lw_up hpt (fun c hA => hnt c (hD.2.2.2.2.2.2.1 p hp hs' c hA)) q.2⟩)
            exact ⟨y', R, lo', r1, Or.inl ⟨t, t1, r2⟩, r3, r4, r5, yF_tr F1 r6⟩
          · intro t1
            rw [if_pos (show (-1 : Int32) < 0 by decide), if_pos (in_ok ha.1 (by decide)), cl (by omega), hy.1 a ha.1, nz_ok ham]
            have hDp := DI_pop hD t1
            have hnd := (List.nodup_cons.mp hD.1).1
            have child : ∀ p, A a p → pa p = a → nu p ≠ 99 ∧ ¬ p ∈ a :: s ∧ p ≠ a := fun p hA hp => by
              have hpm := t1 p hA
              have hpa : p ≠ a := Ne.symm (hN.2.1 _ _ hA).2.2
              have hpr : p ≠ r := fun e => by
                have := hD.2.2.2.2.2.2.2.2.1
                rw [e, this] at hp
                omega
              refine ⟨hpm, fun z => ?_, hpa⟩
              have key : ∀ l : List Nat, ch pa l → p ∈ l → a ∈ l.tail ∨ pa p = 98 := by
                intro l
                induction l with
                | nil => intro _ h; cases h
                | cons b l ihl =>
                  intro hc hm
                  rw [ch_cons] at hc
                  rcases List.mem_cons.mp hm with e | e
                  · cases l with
                    | nil => exact Or.inr (by rw [e]; exact hc.1)
                    | cons d l =>
                      refine Or.inl ?_
                      have : pa b = d := hc.1
                      rw [← e, hp] at this
                      rw [this]
                      exact List.mem_cons_self ..
                  · rcases ihl hc.2 e with h | h
                    · exact Or.inl (List.mem_of_mem_tail h)
                    · exact Or.inr h
              rcases key _ hD.2.1 z with h | h
              · exact hnd h
              · omega
            refine search_L142 (lo := lo) (Q := fun o => ∃ y' R lo', o = some y' ∧ ds A (M + 1) (a :: s) k nu pa R ∧ DI A V r [] R.2.2 R.1 R.2.1 ∧ sy_Y y' R.1 R.2.1 ∧ lo_Y A y' [] R.1 R.2.1 lo' ∧ yF sy_W y y') hN y hD (fun q hq => hE a q ha.1 hq) hy ham t1 (fun p hA hp => by
              have c := child p hA hp
              have q := hl p c.1 c.2.1
              exact ⟨q.1, q.2.2.1⟩) _ ?_
            intro w hw
            rw [if_pos (in_ok ha.1 (by decide)), m_let, if_pos (in_ok ha.1 (by decide)), ys_ne (by decide), hy.2 a ham, (ch_cons.mp hD.2.1).1]
            have F1 : yF sy_W y (m_ys y 304 a (nI w)) := yF_set (yF_rf _ _) ⟨by omega, by omega⟩
            have hvc : ∀ p, A a p → pa p = a → up lo a w p = lo p := fun p hA hp => up_ne (child p hA hp).2.2
            have hlv : lw A nu pa (up lo a w) a := by
              refine lw_of hN ?_
              rw [up_eq]
              obtain ⟨a1, a2, a3⟩ := hw
              refine ⟨?_, a2, fun p hp p1 p2 => ⟨(a3 p hp p1 p2).1, fun p3 => by rw [hvc p p1 p3]; exact (a3 p hp p1 p2).2 p3⟩⟩
              rcases a1 with e | ⟨p, p0, p1, p2, e | ⟨p3, e⟩⟩
              · exact Or.inl e
              · exact Or.inr ⟨p, p0, p1, p2, Or.inl e⟩
              · exact Or.inr ⟨p, p0, p1, p2, Or.inr ⟨p3, by rw [hvc p p1 p3]; exact e⟩⟩
            obtain ⟨y', R, lo', r1, r2, r3, r4, r5, r6⟩ := ih s k nu pa (up lo a w) (m_ys y 304 a (nI w)) n M (by simp only [List.length_cons] at h1; omega) (by omega) (by omega) (by rw [ys_ne (by decide)]; exact hE) hDp ⟨fun p hp => by rw [ys_ne (by decide)]; exact hy.1 p hp, fun p hp => by rw [ys_ne (by decide)]; exact hy.2 p hp⟩ (fun p hp hs => by
              rw [ys_at]
              by_cases e : p = a
              · rw [if_pos e, e, up_eq]
                exact ⟨rfl, hlv⟩
              · have q := hl p hp (fun z => (List.mem_cons.mp z).elim e hs)
                rw [if_neg e, up_ne e]
                refine ⟨q.1, lw_cong (up_ne e) (fun c hA hc => up_ne (fun z => ?_)) q.2⟩
                -- a is no child of one gone back from
                have hpa : pa a = p := z ▸ hc
                rw [(ch_cons.mp hD.2.1).1] at hpa
                cases s with
                | nil =>
                  have := (DI_lt hN hD hp).1
                  have h98 : (98 : Nat) = p := hpa
                  omega
                | cons d s =>
                  have : d = p := hpa
                  exact hs (by rw [this]; exact List.mem_cons_self ..))
            exact ⟨y', R, lo', r1, Or.inr ⟨t1, r2⟩, r3, r4, r5, yF_tr F1 r6⟩
theorem searches_1 (y : mY) {Q : Option mY → Prop} (kk : mY → Option mY) (hk : ∀ y', yF sy_W y y' → (∀ p, p < 8 → y'.1 302 p = -1) → Q (kk y')) : Q (f_X11_searches_L8 mF 0 y kk) := by
  refine lp_up 8 (fun n b s => f_X11_searches_L8 n b s kk) (fun j s => yF sy_W y s ∧ ∀ p, p < j → s.1 302 p = -1) Q ?_ ?_ mF 0 y (by decide) (by decide) ⟨yF_rf _ _, fun p hp => by omega⟩
  · intro n s hI
    show Q (f_X11_searches_L8 (n + 1) (nI 8) s kk)
    rw [f_X11_searches_L8, if_pos (by decide)]
    exact hk s hI.1 hI.2
  · intro n j s hj hI ih
    show Q (f_X11_searches_L8 (n + 1) (nI j) s kk)
    rw [f_X11_searches_L8, if_neg (k8f hj), if_pos (in_ok hj (by decide)), cl (by omega), m_let, nI_1]
    refine ih _ ⟨yF_set hI.1 ⟨by omega, by omega⟩, fun p hp => ?_⟩
    rw [ys_at]
    by_cases e : p = j
    · rw [if_pos e]
    · rw [if_neg e]; exact hI.2 p (by omega)
end D3
def se_W (q c : Nat) : Prop := q = 293 ∨ (302 ≤ q ∧ q ≤ 304)
theorem searches_ok {np r : Nat} (y : mY) (hW : sW (y.1 289) np) (hr : bt (y.1 289 2) r = true) : ∃ y' R lo, f_X11_searches (nI r) y = some y' ∧ yF se_W y y' ∧ se_A (sA (y.1 289) (y.1 289 3)) (bS (y.1 289 2)) r R ∧ sy_Y y' R.1 R.2.1 ∧ ∀ p, R.1 p ≠ 99 → y'.1 304 p = nI (lo p) ∧ lw (sA (y.1 289) (y.1 289 3)) R.1 R.2.1 lo p := by
  have hN := sN_learnt hW
  have hr8 : r < 8 := hN.2.1.2.2 r hr
  unfold f_X11_searches
  obtain ⟨L, y1, l1, l2, l3, l4⟩ := laysNet_ok (np := np) (w := 1) (by decide) y hW
  have hL : L = y.1 289 3 := by
    rcases l1 with ⟨z, _⟩ | ⟨_, z⟩
    · omega
    · exact z
  subst hL
  rw [show f_X11_laysNet (1 : Int32) = f_X11_laysNet (nI 1) from rfl, l2, Option.bind_some]
  have F1 : yF se_W y y1 := yF_mo (yF_R l3) (fun q c z => Or.inl z.1)
  refine searches_1 (Q := fun o => ∃ y' R lo, o = some y' ∧ yF se_W y y' ∧ se_A (sA (y.1 289) (y.1 289 3)) (bS (y.1 289 2)) r R ∧ sy_Y y' R.1 R.2.1 ∧ ∀ p, R.1 p ≠ 99 → y'.1 304 p = nI (lo p) ∧ lw (sA (y.1 289) (y.1 289 3)) R.1 R.2.1 lo p) y1 _ ?_
  intro y3 F3 h3
  rw [if_pos (in_ok hr8 (by decide)), cl (by omega), m_let, if_pos (in_ok hr8 (by decide)), m_let]
  have F5 : yF sy_W y1 (m_ys (m_ys y3 302 r 0) 303 r (-2)) := yF_set (yF_set F3 ⟨by omega, by omega⟩) ⟨by omega, by omega⟩
  have hE : ∀ p q, p < 8 → q < 8 → (sA (y.1 289) (y.1 289 3) p q ↔ bt ((m_ys (m_ys y3 302 r 0) 303 r (-2)).1 293 (8 + p)) q = true) := fun p q hp hq => by
    rw [yF_row F5 (q := 293) (fun c z => by have : 302 ≤ 293 ∧ 293 ≤ 304 := z; omega), ← l4]
    exact ⟨fun z => z.2.2, fun z => ⟨hp, hq, z⟩⟩
  have e0 : nI r = pz (bk [r]) := (pz_ok (by omega)).symm
  have hmF : 20 < mF := by decide
  rw [show f_X11_searches_L46 mF (1 : Int32) (nI r) = f_X11_searches_L46 mF (nI 1) (pz (bk [r])) by rw [e0]; rfl]
  have em : ∀ p, (fun p => if p = r then 0 else 99) p ≠ 99 → p = r := fun p hp => Classical.byContradiction fun hc => hp (by show (if p = r then 0 else 99) = 99; rw [if_neg hc])
  obtain ⟨y', R, lo, r1, r2, r3, r4, r5, r6⟩ := searches_2 hN.2.1 (r := r) 15 [r] 1 (fun p => if p = r then 0 else 99) (fun p => if p = r then 98 else 99) (fun _ => 0) (m_ys (m_ys y3 302 r 0) 303 r (-2)) mF 20 rfl (by omega) (by omega) hE (DI_0 hr) ⟨fun p hp => by
    rw [ys_ne (by decide), ys_at]
    show _ = nz (if p = r then 0 else 99)
    by_cases e : p = r
    · rw [if_pos e, if_pos e]; rfl
    · rw [if_neg e, if_neg e, nz_99]; exact h3 p hp, fun p hp => by
    rw [em p hp, ys_eq]
    show _ = pz (if r = r then 98 else 99)
    rw [if_pos rfl, pz_98]⟩ (fun p hp hs => absurd (List.mem_singleton.mpr (em p hp)) hs)
  refine ⟨y', R, lo, r1, yF_tr F1 (yF_mo (yF_tr F5 r6) (fun q c z => Or.inr z)), ⟨r2, r3⟩, r4, fun p hp => r5 p hp (by simp)⟩
