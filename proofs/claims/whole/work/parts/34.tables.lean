/-! ===== the class's tables ===== -/
section T1
variable {A : Nat → Nat → Prop} {V : Nat → Prop}
theorem nA_of {f : Nat → Int32} (hN : g_N A V) (h : ∀ p, p < 8 → ∀ q, bt (f p) q = true ↔ A p q) : nA f = A := by
  funext p q
  refine propext ⟨fun k => (h p k.1 q).mp k.2.2, fun k => ?_⟩
  have := hN.2.1 p q k
  exact ⟨hN.2.2 p this.1, hN.2.2 q this.2.1, (h p (hN.2.2 p this.1) q).mpr k⟩
theorem b_and0 {s u : Int32} : (s &&& u) = 0 ↔ ∀ i, bt s i = true → ¬ bt u i = true := by
  constructor
  · intro h i hi hu
    have h2 : bt (s &&& u) i = true := by rw [b_and, hi, hu]; rfl
    rw [h, b_0] at h2
    cases h2
  · intro h
    refine b_eq0 fun i hi => ?_
    rw [b_and, Bool.and_eq_true] at hi
    exact h i hi.1 hi.2
/-- the lowest post of a block with a link to its head -/
def la_t (A : Nat → Nat → Prop) (B : Nat → Prop) (h t : Nat) : Prop := A h t ∧ B t ∧ ∀ c, c < t → A h c → ¬ B c
theorem la_un {B : Nat → Prop} {h t u : Nat} (h1 : la_t A B h t) (h2 : la_t A B h u) : t = u := by
  rcases Nat.lt_trichotomy t u with e | e | e
  · exact absurd h1.2.1 (h2.2.2 t e h1.1)
  · exact e
  · exact absurd h2.2.1 (h1.2.2 u e h2.1)
theorem la_ex {B : Nat → Prop} {h : Nat} (hT : g_T A B) (hh : B h) : ∃ t, la_t A B h t := by
  obtain ⟨a, b, ha, hb, hab⟩ := hT.1
  have key : ∀ c, B c → c ≠ h → ∃ u, A h u ∧ B u := fun c hc hne => by
    obtain ⟨u, u1, u2⟩ := g_first (g_T_conn hT hh hc) hne
    exact ⟨u, u1, u2.1.1⟩
  have : ∃ u, A h u ∧ B u := by
    by_cases e : a = h
    · exact key b hb (fun z => hab (e.trans z.symm))
    · exact key a ha e
  obtain ⟨u, hu⟩ := this
  obtain ⟨t, t1, t2⟩ := g_min (P := fun u => A h u ∧ B u) hu
  exact ⟨t, t1.1, t1.2, fun c hc hA hB => t2 c hc ⟨hA, hB⟩⟩
theorem lastOf_ok {B : Nat → Prop} {O : Int32} (x : mX) (hN : g_N A V) (hn : ∀ p, p < 8 → ∀ q, bt (x.1 229 p) q = true ↔ A p q) (hO : ∀ i, bt O i = true ↔ B i) {h t : Nat} (hh : h < 8) (ht : la_t A B h t) : f_X3_lastOf O (nI h) x = some (nI t) := by
  unfold f_X3_lastOf
  have ht8 : t < 8 := hN.2.2 t (hN.2.1 _ _ ht.1).2.1
  rw [if_neg (nI_m1 (by omega)), if_pos (in_ok hh (by decide)), cl (by omega), lowest_at (m := t) ht8, Option.bind_some]
  · rw [b_and, (hn h hh t).mpr ht.1, (hO t).mpr ht.2.1]; rfl
  · intro i hi hb
    rw [b_and, Bool.and_eq_true] at hb
    exact ht.2.2 i hi ((hn h hh i).mp hb.1) ((hO i).mp hb.2)
theorem nextOf_ok {B : Nat → Prop} {O R : Int32} (x : mX) (hN : g_N A V) (hn : ∀ p, p < 8 → ∀ q, bt (x.1 229 p) q = true ↔ A p q) (hO : ∀ i, bt O i = true ↔ B i) (hB : ∀ c, B c → c < 8) {f : Nat → Nat} {j t : Nat} (ht : t < 8) (hf : ∀ i, i < j → B (f i)) (hR : ∀ i, bt R i = true ↔ od_l B f j i) : (∃ p, p < 8 ∧ od_c A B f j t p ∧ (∀ q, q < p → ¬ od_c A B f j t q) ∧ f_X7_nextOf O R (nI t) x = some (nI p)) ∨ ((∀ p, ¬ od_c A B f j t p) ∧ f_X7_nextOf O R (nI t) x = some (-1)) := by
  unfold f_X7_nextOf
  have hE := nA_of hN hn
  have hR8 : b8 R := fun i hi => hB i ((hR i).mp hi).1
  have hbS : bS R = od_l B f j := funext fun c => propext (hR c)
  have done : ∀ i, bt (O &&& (R ^^^ (-1 : Int32))) i = true ↔ ∃ k, k < j ∧ f k = i := by
    intro i
    rw [b_wos, Bool.and_eq_true, hO i]
    constructor
    · rintro ⟨h1, h2⟩
      refine Classical.byContradiction fun hc => ?_
      have : bt R i = true := (hR i).mpr ⟨h1, fun k hk e => hc ⟨k, hk, e⟩⟩
      rw [this] at h2
      cases h2
    · rintro ⟨k, k1, rfl⟩
      refine ⟨hf k k1, ?_⟩
      have : ¬ bt R (f k) = true := fun z => ((hR _).mp z).2 k k1 rfl
      simpa using this
  refine lp_up 8 (fun n b (_ : Unit) => f_X7_nextOf_L10 R (nI t) (O &&& (R ^^^ (-1 : Int32))) n b x) (fun k _ => ∀ q, q < k → ¬ od_c A B f j t q) (fun o => (∃ p, p < 8 ∧ od_c A B f j t p ∧ (∀ q, q < p → ¬ od_c A B f j t q) ∧ o = some (nI p)) ∨ ((∀ p, ¬ od_c A B f j t p) ∧ o = some (-1))) ?_ ?_ mF 0 () (by decide) (by decide) (fun q hq => by omega)
  · intro n _ hI
    refine Or.inr ⟨fun p hp => hI p (hB p hp.2.1.1) hp, ?_⟩
    show f_X7_nextOf_L10 R (nI t) (O &&& (R ^^^ (-1 : Int32))) (n + 1) (nI 8) x = _
    rw [f_X7_nextOf_L10, if_pos (by decide)]
  · intro n k _ hk hI ih
    show (∃ p, p < 8 ∧ od_c A B f j t p ∧ (∀ q, q < p → ¬ od_c A B f j t q) ∧ f_X7_nextOf_L10 R (nI t) (O &&& (R ^^^ (-1 : Int32))) (n + 1) (nI k) x = some (nI p)) ∨ ((∀ p, ¬ od_c A B f j t p) ∧ f_X7_nextOf_L10 R (nI t) (O &&& (R ^^^ (-1 : Int32))) (n + 1) (nI k) x = some (-1))
    rw [f_X7_nextOf_L10, if_neg (k8f hk), nI_1]
    have skip : ¬ od_c A B f j t k → (∃ p, p < 8 ∧ od_c A B f j t p ∧ (∀ q, q < p → ¬ od_c A B f j t q) ∧ f_X7_nextOf_L10 R (nI t) (O &&& (R ^^^ (-1 : Int32))) n (nI (k + 1)) x = some (nI p)) ∨ ((∀ p, ¬ od_c A B f j t p) ∧ f_X7_nextOf_L10 R (nI t) (O &&& (R ^^^ (-1 : Int32))) n (nI (k + 1)) x = some (-1)) := by
      intro hno
      refine ih () (fun q hq => ?_)
      by_cases e : q = k
      · subst e; exact hno
      · exact hI q (by omega)
    by_cases c1 : k = t
    · subst c1
      rw [if_pos rfl]
      exact skip (fun z => z.1 rfl)
    · rw [if_neg (fun z => c1 ((nI_eq (by omega) (by omega)).mp z))]
      by_cases c2 : bt R k = true
      · rw [if_neg (h10t (by omega) c2), if_pos (in_ok hk (by decide)), cl (by omega)]
        by_cases c3 : ((x.1 229 k) &&& (O &&& (R ^^^ (-1 : Int32)))) = 0
        · rw [if_pos c3]
          rw [b_and0] at c3
          refine skip (fun z => ?_)
          obtain ⟨i, i1, i2⟩ := z.2.2.1
          exact c3 (f i) ((hn k hk _).mpr i2) ((done _).mpr ⟨i, i1, rfl⟩)
        · rw [if_neg c3]
          have hadj : ∃ i, i < j ∧ A k (f i) := by
            refine Classical.byContradiction fun hc => c3 (b_and0.mpr fun i hi hd => ?_)
            obtain ⟨l, l1, rfl⟩ := (done i).mp hd
            exact hc ⟨l, l1, (hn k hk _).mp hi⟩
          obtain ⟨S, e, hS⟩ := reach_ok 229 (W := R &&& (((1 : Int32) <<< (nI k &&& 31)) ^^^ (-1 : Int32))) (b8_andl hR8) x ht
          rw [hE, bS_woE (by omega), hbS] at hS
          have hleft : ∀ i, bt (R &&& (((1 : Int32) <<< (nI k &&& 31)) ^^^ (-1 : Int32))) i = true ↔ g_D (od_l B f j) k i := fun i => by
            rw [← hbS]; exact bS_wo (by omega) i
          rw [e, Option.bind_some]
          by_cases c4 : S = (R &&& (((1 : Int32) <<< (nI k &&& 31)) ^^^ (-1 : Int32)))
          · rw [if_pos c4]
            refine Or.inl ⟨k, hk, ⟨c1, (hR k).mp c2, hadj, fun c hc hck => ?_⟩, hI, rfl⟩
            rw [c4] at hS
            exact (hS c).mp ((hleft c).mpr ⟨hc, hck⟩)
          · rw [if_neg c4]
            refine skip (fun z => c4 (b_eq_iff fun i => ?_))
            rw [hS i, hleft i]
            exact ⟨fun w => g_in w, fun w => z.2.2.2 i w.1 w.2⟩
      · rw [if_pos (h10f (by omega) c2)]
        exact skip (fun z => c2 ((hR k).mpr z.2.1))
theorem putRow_ok {j : Nat} (hj : j < 8) (v : Int32) (x : mX) (h : x.1 234 0 = nI j) : f_X7_putRow v x = some (m_xs (m_xs x 235 j v) 234 0 (nI (j + 1))) := by
  unfold f_X7_putRow
  rw [h, if_neg (nI_pos (by omega)), if_neg (k8f hj), if_pos (in_ok hj (by decide)), cl (by omega), m_let, m_let, xs_ne (by decide), h, nI_1]
/-- the cells that arrange writes -/
def ar_W (q c : Nat) : Prop := q = 235 ∨ (q = 234 ∧ c = 0)
/-- the row stands -/
def ar_R (x : mX) (m : Nat) (f : Nat → Nat) : Prop := x.1 234 0 = nI m ∧ ∀ i, i < m → x.1 235 i = nI (f i)
theorem ar_put {x : mX} {j : Nat} {f : Nat → Nat} (p : Nat) (h : ar_R x j f) : ar_R (m_xs (m_xs x 235 j (nI p)) 234 0 (nI (j + 1))) (j + 1) (fun i => if i = j then p else f i) := by
  refine ⟨xs_eq _ _ _ _, fun i hi => ?_⟩
  rw [xs_ne (by decide), xs_at]
  by_cases e : i = j
  · rw [if_pos e]
    show nI p = nI (if i = j then p else f i)
    rw [if_pos e]
  · rw [if_neg e]
    show _ = nI (if i = j then p else f i)
    rw [if_neg e]
    exact h.2 i (by omega)
theorem arrange_ok {B : Nat → Prop} {O : Int32} (x : mX) (hN : g_N A V) (hn : ∀ p, p < 8 → ∀ q, bt (x.1 229 p) q = true ↔ A p q) (hO : ∀ i, bt O i = true ↔ B i) (hB : ∀ c, B c → c < 8) (hT : g_T A B) {h t : Nat} (hh : B h) (ht : la_t A B h t) : ∃ x', f_X7_arrange O (nI h) x = some x' ∧ xF ar_W x x' ∧ ∃ f, od_1 A B h t (g_n B 8) f ∧ ar_R x' (g_n B 8) f := by
  have hh8 := hB h hh
  have ht8 := hB t ht.2.1
  have hht : h ≠ t := (hN.2.1 _ _ ht.1).2.2
  have hA := hN.1
  have hb8 := g_n_bound (P := B) 8
  unfold f_X7_arrange
  have hn1 : ∀ p, p < 8 → ∀ q, bt ((m_xs x 234 0 0).1 229 p) q = true ↔ A p q := by rw [xs_ne (by decide)]; exact hn
  rw [m_let, lastOf_ok _ hN hn1 hO hh8 ht, Option.bind_some, if_neg (nI_m1 (by omega)), if_neg (nI_m1 (by omega)), putRow_ok (j := 0) (by decide) (nI h) (m_xs x 234 0 0) (xs_eq _ _ _ _), Option.bind_some]
  have hR0 : ar_R (m_xs x 234 0 0) 0 (fun _ => h) := ⟨xs_eq _ _ _ _, fun i hi => by omega⟩
  have hR1 := ar_put h hR0
  have hp1 : od_p A B h t (g_n B 8) (fun i => if i = 0 then h else (fun _ => h) i) 1 := od_p_1 hA hT hh ht.2.1 hht rfl
  have hx1 : xF ar_W x (m_xs (m_xs (m_xs x 234 0 0) 235 0 (nI h)) 234 0 (nI (0 + 1))) := xF_set (xF_set (xF_set (xF_rf _ _) (Or.inr ⟨rfl, rfl⟩)) (Or.inl rfl)) (Or.inr ⟨rfl, rfl⟩)
  have hl1 : ∀ i, bt (O &&& (((1 : Int32) <<< (nI h &&& 31)) ^^^ (-1 : Int32))) i = true ↔ od_l B (fun i => if i = 0 then h else (fun _ => h) i) 1 i := fun i => by
    rw [b_wo (by omega), Bool.and_eq_true, hO i]
    constructor
    · rintro ⟨k1, k2⟩
      refine ⟨k1, fun l hl e => ?_⟩
      have : i = h := by
        have : l = 0 := by omega
        subst this
        exact e.symm
      simp [this] at k2
    · rintro ⟨k1, k2⟩
      refine ⟨k1, ?_⟩
      have : i ≠ h := fun e => k2 0 (by omega) e.symm
      simp [this]
  have key : ∀ n j (s : mX) (R : Int32) (f : Nat → Nat), 8 < j + n → j < 8 → xF ar_W x s → ar_R s j f → od_p A B h t (g_n B 8) f j → (∀ i, bt R i = true ↔ od_l B f j i) → ∃ x', f_X7_arrange_L42 O (nI t) n R (nI (j + 1)) s = some x' ∧ xF ar_W x x' ∧ ∃ f, od_1 A B h t (g_n B 8) f ∧ ar_R x' (g_n B 8) f := by
    intro n
    induction n with
    | zero => intro j s R f h1 h2; omega
    | succ n ih =>
      intro j s R f h1 h2 hx hR hp hl
      have fin : (∀ w, od_l B f j w → w = t) → ∃ x', (f_X7_putRow (nI t) s).bind (fun q4 => some q4) = some x' ∧ xF ar_W x x' ∧ ∃ f, od_1 A B h t (g_n B 8) f ∧ ar_R x' (g_n B 8) f := by
        intro hall
        rw [putRow_ok h2 _ _ hR.1, Option.bind_some]
        have hm := od_p_all hB hp hall
        refine ⟨_, rfl, xF_set (xF_set hx (Or.inl rfl)) (Or.inr ⟨rfl, rfl⟩), _, od_p_last hp hall hm, ?_⟩
        rw [hm]
        exact ar_put t hR
      rw [f_X7_arrange_L42]
      by_cases e8 : j + 1 = 8
      · rw [e8, if_pos (by decide)]
        refine fin (fun w hw => Classical.byContradiction fun hne => ?_)
        have := od_p_two hB hp hw hne
        omega
      · have hns : ∀ p, p < 8 → ∀ q, bt (s.1 229 p) q = true ↔ A p q := by
          rw [xF_row hx (q := 229) (fun c hc => by rcases hc with e | e <;> omega)]; exact hn
        rw [if_neg (k8f (by omega))]
        rcases nextOf_ok s hN hns hO hB ht8 hp.2.2.1 hl with ⟨p, q1, q2, q3, q4⟩ | ⟨q1, q2⟩
        · rw [q4, Option.bind_some, if_neg (nI_m1 (by omega)), putRow_ok h2 _ _ hR.1, Option.bind_some, nI_1]
          refine ih (j + 1) _ _ _ (by omega) (by omega) (xF_set (xF_set hx (Or.inl rfl)) (Or.inr ⟨rfl, rfl⟩)) (ar_put p hR) (od_p_put hA hp q2 q3) (fun i => ?_)
          rw [b_wo (by omega), Bool.and_eq_true, hl i]
          constructor
          · rintro ⟨k1, k2⟩
            refine ⟨k1.1, fun l hl e => ?_⟩
            by_cases el : l = j
            · have : i = p := by
                rw [← e]
                show (if l = j then p else f l) = p
                rw [if_pos el]
              simp [this] at k2
            · refine k1.2 l (by omega) ?_
              rw [← e]
              show f l = if l = j then p else f l
              rw [if_neg el]
          · rintro ⟨k1, k2⟩
            refine ⟨⟨k1, fun l hl e => k2 l (by omega) ?_⟩, ?_⟩
            · show (if l = j then p else f l) = i
              rw [if_neg (by omega)]; exact e
            · have : i ≠ p := fun e => k2 j (by omega) (by
                show (if j = j then p else f j) = i
                rw [if_pos rfl]; exact e.symm)
              simp [this]
        · rw [q2, Option.bind_some, if_pos rfl]
          refine fin (fun w hw => Classical.byContradiction fun hne => ?_)
          obtain ⟨p, hc⟩ := od_c_ex hA hT hB hp hw hne
          exact q1 p hc
  exact key mF 1 _ _ _ (by decide) (by decide) hx1 hR1 hp1 hl1
end T1
