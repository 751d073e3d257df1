/-! ===== the class's ears ===== -/
section E2
variable {A C Lo : Nat → Nat → Prop} {B : Nat → Prop}
/-- the links less one -/
def lm (Lo : Nat → Nat → Prop) (a c : Nat) : Nat → Nat → Prop := fun p q => Lo p q ∧ ¬ (p = a ∧ q = c) ∧ ¬ (p = c ∧ q = a)
theorem lz_two {a c : Nat} : lz Lo [a, c] = lm Lo a c := by
  funext p q
  refine propext ⟨fun h => ⟨h.1, fun z => h.2.1 (Or.inl z), fun z => h.2.2 (Or.inl ⟨z.2, z.1⟩)⟩, fun h => ⟨h.1, fun z => ?_, fun z => ?_⟩⟩
  · rcases z with z | z
    · exact h.2.1 z
    · exact z
  · rcases z with z | z
    · exact h.2.2 ⟨z.2, z.1⟩
    · exact z
theorem lz_cons {a c : Nat} {T : List Nat} : lz (lm Lo a c) (c :: T) = lz Lo (a :: c :: T) := by
  funext p q
  refine propext ⟨fun h => ⟨h.1.1, fun z => ?_, fun z => ?_⟩, fun h => ⟨⟨h.1, fun z => h.2.1 (Or.inl z), fun z => h.2.2 (Or.inl ⟨z.2, z.1⟩)⟩, fun z => h.2.1 (Or.inr z), fun z => h.2.2 (Or.inr z)⟩⟩
  · rcases z with z | z
    · exact h.1.2.1 z
    · exact h.2.1 z
  · rcases z with z | z
    · exact h.1.2.2 ⟨z.2, z.1⟩
    · exact h.2.2 z
/-- loose links, what is IN, the cells: as they stand in the class -/
def cx_X (x : mX) (Lo : Nat → Nat → Prop) (I F : List Nat) : Prop :=
  x.1 245 1 = nI F.length ∧ (∀ i k, F[i]? = some k → x.1 246 i = nI k) ∧ x.1 245 6 = nI I.length ∧ (∀ p, bt (x.1 245 7) p = true ↔ p ∈ I) ∧ (∀ i p, I[i]? = some p → x.1 249 i = nI p) ∧ ∀ p, p < 8 → ∀ q, bt (x.1 248 p) q = true ↔ Lo p q
def ew_W (q c : Nat) : Prop := (q = 245 ∧ c ≠ 0) ∨ q = 246 ∨ q = 248 ∨ q = 249 ∨ q = 250
theorem putCell_ok {F I : List Nat} (x : mX) (hx : cx_X x Lo I F) (hF : F.length < 48) (k : Nat) : ∃ x', f_X0_putCell (nI k) x = some x' ∧ cx_X x' Lo I (F ++ [k]) ∧ xF ew_W x x' ∧ x'.1 250 = x.1 250 := by
  obtain ⟨x1, x2, x3, x4, x5, x6⟩ := hx
  unfold f_X0_putCell
  rw [x1, if_neg (nI_pos (by omega)), if_neg (show ¬ (48 : Int32) ≤ nI F.length from nI_ge hF (by decide)), if_pos (in_ok hF (by decide)), cl (by omega), m_let, m_let, xs_ne (by decide), x1, nI_1]
  refine ⟨_, rfl, ⟨?_, fun i j hi => ?_, ?_, ?_, ?_, ?_⟩, xF_set (xF_set (xF_rf _ _) (Or.inr (Or.inl rfl))) (Or.inl ⟨rfl, by decide⟩), ?_⟩
  · rw [xs_eq, List.length_append]; rfl
  · rw [xs_ne (by decide), xs_at]
    rcases app_get hi with z | ⟨z1, z2⟩
    · rw [if_neg (by have := get_lt z; omega)]; exact x2 i j z
    · rw [if_pos z1, z2]
  · rw [xs_ec (by decide), xs_ne (by decide)]; exact x3
  · rw [xs_ec (by decide), xs_ne (by decide)]; exact x4
  · intro i p hi; rw [xs_ne (by decide), xs_ne (by decide)]; exact x5 i p hi
  · intro p hp; rw [xs_ne (by decide), xs_ne (by decide)]; exact x6 p hp
  · rw [xs_ne (by decide), xs_ne (by decide)]
theorem goOver_ok {F I : List Nat} {a c : Nat} (ha : a < 8) (hc : c < 8) (hac : a ≠ c) (x : mX) (hx : cx_X x Lo I F) (hF : F.length < 48) : ∃ x', f_X0_goOver (nI a) (nI c) x = some x' ∧ cx_X x' (lm Lo a c) I (F ++ [c]) ∧ xF ew_W x x' ∧ x'.1 250 = x.1 250 := by
  obtain ⟨x1, x2, x3, x4, x5, x6⟩ := id hx
  unfold f_X0_goOver
  rw [if_pos (in_ok ha (by decide)), if_pos (in_ok ha (by decide)), cl (by omega), m_let, if_pos (in_ok hc (by decide)), if_pos (in_ok hc (by decide)), cl (by omega), m_let, xs_ec (by omega)]
  have hy : cx_X (m_xs (m_xs x 248 a ((x.1 248 a) &&& (((1 : Int32) <<< (nI c &&& 31)) ^^^ (-1 : Int32)))) 248 c ((x.1 248 c) &&& (((1 : Int32) <<< (nI a &&& 31)) ^^^ (-1 : Int32)))) (lm Lo a c) I F := by
    refine ⟨?_, fun i j hi => ?_, ?_, ?_, ?_, fun p hp q => ?_⟩
    · rw [xs_ne (by decide), xs_ne (by decide)]; exact x1
    · rw [xs_ne (by decide), xs_ne (by decide)]; exact x2 i j hi
    · rw [xs_ne (by decide), xs_ne (by decide)]; exact x3
    · rw [xs_ne (by decide), xs_ne (by decide)]; exact x4
    · intro i p hi; rw [xs_ne (by decide), xs_ne (by decide)]; exact x5 i p hi
    · rw [xs_at]
      by_cases e : p = c
      · rw [if_pos e, b_wo (by omega), Bool.and_eq_true, x6 c hc q]
        subst e
        constructor
        · rintro ⟨k1, k2⟩
          refine ⟨k1, fun z => hac z.1.symm, fun z => ?_⟩
          rw [z.2] at k2; simp at k2
        · rintro ⟨k1, k2, k3⟩
          refine ⟨k1, ?_⟩
          have : q ≠ a := fun z => k3 ⟨rfl, z⟩
          simp [this]
      · rw [if_neg e, xs_at]
        by_cases e2 : p = a
        · rw [if_pos e2, b_wo (by omega), Bool.and_eq_true, x6 a ha q]
          subst e2
          constructor
          · rintro ⟨k1, k2⟩
            refine ⟨k1, fun z => ?_, fun z => e z.1⟩
            rw [z.2] at k2; simp at k2
          · rintro ⟨k1, k2, k3⟩
            refine ⟨k1, ?_⟩
            have : q ≠ c := fun z => k2 ⟨rfl, z⟩
            simp [this]
        · rw [if_neg e2, x6 p hp q]
          exact ⟨fun k => ⟨k, fun z => e2 z.1, fun z => e z.1⟩, fun k => k.1⟩
  obtain ⟨x', p1, p2, p3, p4⟩ := putCell_ok _ hy hF c
  rw [p1, Option.bind_some]
  refine ⟨x', rfl, p2, xF_tr (xF_set (xF_set (xF_rf _ _) (Or.inr (Or.inr (Or.inl rfl)))) (Or.inr (Or.inr (Or.inl rfl)))) p3, ?_⟩
  rw [p4, xs_ne (by decide), xs_ne (by decide)]
theorem enter_ok {F I : List Nat} {a : Nat} (ha : a < 8) (x : mX) (hx : cx_X x Lo I F) (hI : I.length < 8) : ∃ x', f_X0_enter (nI a) x = some x' ∧ cx_X x' Lo (I ++ [a]) F ∧ xF ew_W x x' ∧ x'.1 250 = x.1 250 := by
  obtain ⟨x1, x2, x3, x4, x5, x6⟩ := hx
  unfold f_X0_enter
  rw [if_neg (nI_pos (by omega)), x3, if_neg (nI_pos (by omega)), if_neg (k8f hI), m_let, xs_ec (by decide), x3, if_pos (in_ok hI (by decide)), cl (by omega), m_let, xs_ne (by decide), xs_ec (by decide), x3, m_let, nI_1]
  refine ⟨_, rfl, ⟨?_, fun i j hi => ?_, ?_, fun p => ?_, fun i p hi => ?_, ?_⟩, xF_set (xF_set (xF_set (xF_rf _ _) (Or.inl ⟨rfl, by decide⟩)) (Or.inr (Or.inr (Or.inr (Or.inl rfl))))) (Or.inl ⟨rfl, by decide⟩), ?_⟩
  · rw [xs_ec (by decide), xs_ne (by decide), xs_ec (by decide)]; exact x1
  · rw [xs_ne (by decide), xs_ne (by decide), xs_ne (by decide)]; exact x2 i j hi
  · rw [xs_eq, List.length_append]; rfl
  · rw [xs_ec (by decide), xs_ne (by decide), xs_eq, b_or, b_bit (by omega), Bool.or_eq_true, decide_eq_true_eq, x4 p, List.mem_append, List.mem_singleton]
  · rw [xs_ne (by decide), xs_at]
    rcases app_get hi with z | ⟨z1, z2⟩
    · rw [if_neg (by have := get_lt z; omega), xs_ne (by decide)]; exact x5 i p z
    · rw [if_pos z1, z2]
  · intro p hp; rw [xs_ne (by decide), xs_ne (by decide), xs_ne (by decide)]; exact x6 p hp
  · rw [xs_ne (by decide), xs_ne (by decide), xs_ne (by decide)]
theorem fl_drop {I : List Nat} {c : Nat} : ∀ j, (∀ i p, i < j → I[i]? = some p → ∀ q, ¬ Lo p q) → fl Lo (I.drop j) c → fl Lo I c := by
  intro j
  induction j with
  | zero => intro _ h; exact h
  | succ j ih =>
    intro hno h
    refine ih (fun i p hi => hno i p (by omega)) ?_
    by_cases e : j < I.length
    · rw [List.drop_eq_getElem_cons e]
      exact Or.inr ⟨hno j _ (by omega) (List.getElem?_eq_getElem e), h⟩
    · rw [List.drop_eq_nil_of_le (by omega)] at h
      exact h.elim
theorem firstLoose_ok {F I : List Nat} (x : mX) (hx : cx_X x Lo I F) (hI : I.length ≤ 8) (h8 : ∀ p, p ∈ I → p < 8) (hLo : ∀ p q, Lo p q → q < 8) : (∃ c, fl Lo I c ∧ f_X0_firstLoose x = some (nI c)) ∨ ((∀ c, c ∈ I → ∀ q, ¬ Lo c q) ∧ f_X0_firstLoose x = some (-1)) := by
  obtain ⟨x1, x2, x3, x4, x5, x6⟩ := hx
  unfold f_X0_firstLoose
  refine lp_up I.length (fun n b (_ : Unit) => f_X0_firstLoose_L2 n b x) (fun j _ => ∀ i p, i < j → I[i]? = some p → ∀ q, ¬ Lo p q) (fun o => (∃ c, fl Lo I c ∧ o = some (nI c)) ∨ ((∀ c, c ∈ I → ∀ q, ¬ Lo c q) ∧ o = some (-1))) ?_ ?_ mF 0 () (Nat.lt_of_le_of_lt hI (by decide)) (by omega) (fun i p hi => by omega)
  · intro n _ hI'
    refine Or.inr ⟨fun c hc q => ?_, ?_⟩
    · obtain ⟨i, hi, e⟩ := List.mem_iff_getElem.mp hc
      exact hI' i c hi (by rw [List.getElem?_eq_getElem hi, e]) q
    · show f_X0_firstLoose_L2 (n + 1) (nI I.length) x = _
      rw [f_X0_firstLoose_L2, x3, if_pos ((nI_leI (by omega) (by omega)).mpr (Nat.le_refl _))]
  · intro n j _ hj hI' ih
    show (∃ c, fl Lo I c ∧ f_X0_firstLoose_L2 (n + 1) (nI j) x = some (nI c)) ∨ ((∀ c, c ∈ I → ∀ q, ¬ Lo c q) ∧ f_X0_firstLoose_L2 (n + 1) (nI j) x = some (-1))
    have e249 : x.1 249 j = nI I[j] := x5 j _ (List.getElem?_eq_getElem hj)
    have hp8 := h8 I[j] (List.getElem_mem hj)
    rw [f_X0_firstLoose_L2, x3, if_neg (fun z => absurd ((nI_leI (by omega) (by omega)).mp z) (by omega)), if_neg (k8f (by omega)), if_pos (in_ok (by omega) (by decide)), cl (by omega), e249, if_pos (in_ok hp8 (by decide)), cl (by omega), nI_1]
    by_cases c : x.1 248 I[j] = 0
    · rw [if_pos c]
      refine ih () (fun i p hi hp => ?_)
      by_cases e : i = j
      · subst e
        rw [List.getElem?_eq_getElem hj] at hp
        have hp' : I[i] = p := by simpa using hp
        intro q hq
        have := (x6 _ hp8 q).mpr (hp' ▸ hq)
        rw [c, b_0] at this
        cases this
      · exact hI' i p (by omega) hp
    · rw [if_neg c, if_pos (in_ok (by omega) (by decide))]
      obtain ⟨q, hq⟩ := b_ex c
      refine Or.inl ⟨I[j], fl_drop j hI' ?_, rfl⟩
      rw [List.drop_eq_getElem_cons hj]
      exact Or.inl ⟨⟨q, (x6 _ hp8 q).mp hq⟩, rfl⟩
/-! measuring -/
/-- how far each is from the goals -/
def fr_X (x : mX) (C : Nat → Nat → Prop) (N G : Nat → Prop) (b s : Nat) : Prop := ∀ p, p < 8 → (∃ n, n ≤ 8 ∧ fa C N G b s n p ∧ x.1 250 p = nI n) ∨ ((∀ n, ¬ fa C N G b s n p) ∧ x.1 250 p = 0)
theorem measure_0 (x : mX) {Q : Option mX → Prop} (kk : mX → Option mX) (hk : ∀ x', xF (fun q _ => q = 250) x x' → (∀ p, p < 8 → x'.1 250 p = 0) → Q (kk x')) : Q (f_X0_measure_L2 mF 0 x kk) := by
  refine lp_up 8 (fun n b s => f_X0_measure_L2 n b s kk) (fun j s => xF (fun q _ => q = 250) x s ∧ ∀ p, p < j → s.1 250 p = 0) Q ?_ ?_ mF 0 x (by decide) (by decide) ⟨xF_rf _ _, fun p hp => by omega⟩
  · intro n s hI
    show Q (f_X0_measure_L2 (n + 1) (nI 8) s kk)
    rw [f_X0_measure_L2, if_pos (by decide)]
    exact hk s hI.1 hI.2
  · intro n j s hj hI ih
    show Q (f_X0_measure_L2 (n + 1) (nI j) s kk)
    rw [f_X0_measure_L2, if_neg (k8f hj), if_pos (in_ok hj (by decide)), cl (by omega), m_let, nI_1]
    refine ih _ ⟨xF_set hI.1 rfl, fun p hp => ?_⟩
    rw [xs_at]
    by_cases e : p = j
    · rw [if_pos e]
    · rw [if_neg e]; exact hI.2 p (by omega)
theorem measure_1 {edge left : Int32} {k : Nat} (hk : k ≤ 8) (x : mX) (h8 : b8 left) {Q : Option mX → Prop} (kk : Int32 → mX → Option mX) (hq : ∀ more x', xF (fun q _ => q = 250) x x' → (∀ p, bt more p = true ↔ bt left p = true ∧ ∃ q, bt (x.1 248 p) q = true ∧ bt edge q = true) → (∀ p, p < 8 → x'.1 250 p = if bt more p = true then nI k else x.1 250 p) → Q (kk more x')) : Q (f_X0_measure_L46 edge left (nI k) mF 0 0 x kk) := by
  refine lp_up 8 (fun n b (s : Int32 × mX) => f_X0_measure_L46 edge left (nI k) n s.1 b s.2 kk) (fun j s => xF (fun q _ => q = 250) x s.2 ∧ (∀ p, bt s.1 p = true ↔ p < j ∧ bt left p = true ∧ ∃ q, bt (x.1 248 p) q = true ∧ bt edge q = true) ∧ ∀ p, p < 8 → s.2.1 250 p = if bt s.1 p = true then nI k else x.1 250 p) Q ?_ ?_ mF 0 (0, x) (by decide) (by decide) ⟨xF_rf _ _, fun p => ?_, fun p hp => ?_⟩
  · intro n s hI
    show Q (f_X0_measure_L46 edge left (nI k) (n + 1) s.1 (nI 8) s.2 kk)
    rw [f_X0_measure_L46, if_pos (by decide)]
    refine hq s.1 s.2 hI.1 (fun p => ?_) hI.2.2
    rw [hI.2.1 p]
    exact ⟨fun z => z.2, fun z => ⟨h8 p z.1, z⟩⟩
  · intro n j s hj hI ih
    show Q (f_X0_measure_L46 edge left (nI k) (n + 1) s.1 (nI j) s.2 kk)
    obtain ⟨i1, i2, i3⟩ := hI
    have e248 : s.2.1 248 = x.1 248 := xF_row i1 (fun c z => by omega)
    rw [f_X0_measure_L46, if_neg (k8f hj), nI_1]
    have skip : ¬ (bt left j = true ∧ ∃ q, bt (x.1 248 j) q = true ∧ bt edge q = true) → Q (f_X0_measure_L46 edge left (nI k) n s.1 (nI (j + 1)) s.2 kk) := by
      intro hno
      refine ih (s.1, s.2) ⟨i1, fun p => ?_, i3⟩
      show bt s.1 p = true ↔ _
      rw [i2 p]
      refine ⟨fun z => ⟨by omega, z.2⟩, fun z => ⟨?_, z.2⟩⟩
      have : p ≠ j := fun e => hno (e ▸ z.2)
      omega
    by_cases c1 : bt left j = true
    · rw [if_neg (h10t (by omega) c1), if_pos (in_ok hj (by decide)), cl (by omega), e248]
      by_cases c2 : ((x.1 248 j) &&& edge) = 0
      · rw [if_pos c2]
        rw [b_and0] at c2
        exact skip (fun z => by obtain ⟨_, q, q1, q2⟩ := z; exact c2 q q1 q2)
      · have hex : ∃ q, bt (x.1 248 j) q = true ∧ bt edge q = true := Classical.byContradiction fun hc => c2 (b_and0.mpr fun q q1 q2 => hc ⟨q, q1, q2⟩)
        rw [if_neg c2, if_pos (in_ok hj (by decide)), m_let]
        have hb : ∀ p, bt (s.1 ||| ((1 : Int32) <<< (nI j &&& 31))) p = true ↔ bt s.1 p = true ∨ p = j := fun p => by
          rw [b_or, b_bit (by omega), Bool.or_eq_true, decide_eq_true_eq]
        refine ih (_, _) ⟨xF_set i1 rfl, fun p => ?_, fun p hp => ?_⟩
        · show bt (s.1 ||| ((1 : Int32) <<< (nI j &&& 31))) p = true ↔ _
          rw [hb p, i2 p]
          constructor
          · rintro (z | rfl)
            · exact ⟨by omega, z.2⟩
            · exact ⟨by omega, c1, hex⟩
          · intro z
            by_cases e : p = j
            · exact Or.inr e
            · exact Or.inl ⟨by omega, z.2⟩
        · show (m_xs s.2 250 j (nI k)).1 250 p = if bt (s.1 ||| ((1 : Int32) <<< (nI j &&& 31))) p = true then nI k else x.1 250 p
          rw [xs_at]
          by_cases e : p = j
          · rw [if_pos e, if_pos ((hb p).mpr (Or.inr e))]
          · rw [if_neg e, i3 p hp]
            by_cases c3 : bt s.1 p = true
            · rw [if_pos c3, if_pos ((hb p).mpr (Or.inl c3))]
            · rw [if_neg c3, if_neg (fun z => ((hb p).mp z).elim c3 e)]
    · rw [if_pos (h10f (by omega) c1)]
      exact skip (fun z => c1 z.1)
  · rw [b_0]; exact ⟨fun z => (by cases z), fun z => absurd z.1 (by omega)⟩
  · rw [if_neg (by rw [b_0]; decide)]
theorem measure_ok {N G : Nat → Prop} {b s : Nat} {S Gm : Int32} (x : mX) (h8 : b8 S) (hS : ∀ p, bt S p = true ↔ B p ∧ ¬ N p) (hG : ∀ p, bt Gm p = true ↔ G p) (hGN : ∀ p, G p → N p) (hsN : N s) (hC : ∀ p q, C p q → C q p ∧ B p ∧ B q) (hloose : ∀ p, B p → ¬ N p → ∀ q, bt (x.1 248 p) q = true ↔ C p q) : ∃ x', f_X0_measure S Gm x = some x' ∧ xF (fun q _ => q = 250) x x' ∧ fr_X x' C N G b s := by
  unfold f_X0_measure
  refine measure_0 (Q := fun o => ∃ x', o = some x' ∧ xF (fun q _ => q = 250) x x' ∧ fr_X x' C N G b s) x _ ?_
  intro x2 F2 z2
  have stepdl : ∀ k p q, ¬ N p → C p q → dl C N G b s (k + 1) q → dl C N G b s (k + 2) p := fun k p q hp hc hd => dl_st hd hc hp
  have one : ∀ p, dl C N G b s 1 p ↔ ¬ N p ∧ ∃ g, G g ∧ C p g := fun p =>
    ⟨fun z => ⟨z.1, z.2.imp fun g k => ⟨k.1, k.2.1⟩⟩, fun z => ⟨z.1, z.2.imp fun g k => ⟨k.1, k.2, fun w => z.1 (w.1 ▸ hsN)⟩⟩⟩
  -- k rounds are through: those nearer than k+1 are told, edge is just those at k (or the goals)
  have key : ∀ m k n (s' : mX) (edge left : Int32), k + m = 8 → m < n → xF (fun q _ => q = 250) x s' → b8 left → (∀ p, bt left p = true ↔ bt S p = true ∧ ∀ j, j ≤ k → ¬ dl C N G b s j p) → (∀ p, bt edge p = true ↔ (k = 0 ∧ G p) ∨ (0 < k ∧ fa C N G b s k p)) → (∀ p, p < 8 → (∃ j, j ≤ k ∧ fa C N G b s j p ∧ s'.1 250 p = nI j) ∨ ((∀ j, j ≤ k → ¬ fa C N G b s j p) ∧ s'.1 250 p = 0)) → ∃ x', f_X0_measure_L29 n edge left (nI (k + 1)) s' = some x' ∧ xF (fun q _ => q = 250) x x' ∧ fr_X x' C N G b s := by
    intro m
    induction m with
    | zero =>
      intro k n s' edge left hk hn hF hl8 hleft hedge hfar
      cases n with
      | zero => omega
      | succ n =>
        rw [f_X0_measure_L29, if_pos (show (8 : Int32) < nI (k + 1) from (nI_ltI (a := 8) (by omega) (by omega)).mpr (by omega))]
        refine ⟨s', rfl, hF, fun p hp => ?_⟩
        rcases hfar p hp with ⟨j, j1, j2, j3⟩ | ⟨j1, j2⟩
        · exact Or.inl ⟨j, by omega, j2, j3⟩
        · refine Or.inr ⟨fun n hn => ?_, j2⟩
          -- no way of more than eight
          have hbig : 8 < n := Classical.byContradiction fun hc => j1 n (by omega) hn
          have hb8 : ∀ n p, fa C N G b s n p → p < 8 := fun n p h => by
            obtain ⟨q, hq⟩ := dl_C h.1
            exact h8 p ((hS p).mpr ⟨(hC p q hq).2.1, dl_N h.1⟩)
          have down : ∀ n p, fa C N G b s n p → ∀ j, 0 < j → j ≤ n → ∃ q, fa C N G b s j q := by
            intro n
            induction n with
            | zero => intro p _ j h1 h2; omega
            | succ n ih =>
              intro p hf j h1 h2
              by_cases e : j = n + 1
              · exact ⟨p, e ▸ hf⟩
              · cases n with
                | zero => omega
                | succ n =>
                  obtain ⟨q, _, hq⟩ := fa_next hf
                  exact ih q hq j h1 (by omega)
          have := g_n_php n (fun j q => fa C N G b s (j + 1) q) (fun a c v _ _ h1 h2 => by have := fa_un h1 h2; omega) 8 (fun j => j < n) (fun j hj _ => by
            obtain ⟨q, hq⟩ := down n p hn (j + 1) (by omega) (by omega)
            exact ⟨q, hb8 _ _ hq, hq⟩)
          rw [g_n_below n (Nat.le_refl _)] at this
          omega
    | succ m ih =>
      intro k n s' edge left hk hn hF hl8 hleft hedge hfar
      cases n with
      | zero => omega
      | succ n =>
        rw [f_X0_measure_L29, if_neg (show ¬ (8 : Int32) < nI (k + 1) from fun z => by have := (nI_ltI (a := 8) (by omega) (by omega)).mp z; omega)]
        by_cases ce : edge = 0
        · rw [if_pos ce]
          refine ⟨s', rfl, hF, fun p hp => ?_⟩
          rcases hfar p hp with ⟨j, j1, j2, j3⟩ | ⟨j1, j2⟩
          · exact Or.inl ⟨j, by omega, j2, j3⟩
          · refine Or.inr ⟨fun n hn => ?_, j2⟩
            have hbig : k < n := Classical.byContradiction fun hc => j1 n (by omega) hn
            have down : ∀ n p, fa C N G b s n p → ∀ j, 0 < j → j ≤ n → ∃ q, fa C N G b s j q := by
              intro n
              induction n with
              | zero => intro p _ j h1 h2; omega
              | succ n ih =>
                intro p hf j h1 h2
                by_cases e : j = n + 1
                · exact ⟨p, e ▸ hf⟩
                · cases n with
                  | zero => omega
                  | succ n =>
                    obtain ⟨q, _, hq⟩ := fa_next hf
                    exact ih q hq j h1 (by omega)
            have none0 : ∀ q, ¬ bt edge q = true := fun q => by rw [ce, b_0]; decide
            by_cases k0 : k = 0
            · obtain ⟨q, hq⟩ := down n p hn 1 (by omega) (by omega)
              obtain ⟨_, g, g1, _⟩ := hq.1
              exact none0 g ((hedge g).mpr (Or.inl ⟨k0, g1⟩))
            · obtain ⟨q, hq⟩ := down n p hn k (by omega) (by omega)
              exact none0 q ((hedge q).mpr (Or.inr ⟨by omega, hq⟩))
        · rw [if_neg ce]
          have e248 : s'.1 248 = x.1 248 := xF_row hF (fun c z => by omega)
          refine measure_1 (Q := fun o => ∃ x', o = some x' ∧ xF (fun q _ => q = 250) x x' ∧ fr_X x' C N G b s) (by omega) s' hl8 _ ?_
          intro more x5 F5 hmore hx5
          rw [nI_1]
          have hm : ∀ p, bt more p = true ↔ fa C N G b s (k + 1) p := fun p => by
            rw [hmore p, hleft p, hS p, e248]
            constructor
            · rintro ⟨⟨⟨m1, m2⟩, m3⟩, q, q1, q2⟩
              have hc := (hloose p m1 m2 q).mp q1
              refine ⟨?_, fun j hj => m3 j (by omega)⟩
              rcases (hedge q).mp q2 with ⟨z1, z2⟩ | ⟨z1, z2⟩
              · subst z1
                exact (one p).mpr ⟨m2, q, z2, hc⟩
              · exact dl_st z2.1 hc m2
            · intro hf
              have hpN := dl_N hf.1
              obtain ⟨w, hw⟩ := dl_C hf.1
              have hpB := (hC p w hw).2.1
              refine ⟨⟨⟨hpB, hpN⟩, fun j hj => hf.2 j (by omega)⟩, ?_⟩
              cases k with
              | zero =>
                obtain ⟨_, g, g1, g2⟩ := (one p).mp hf.1
                exact ⟨g, (hloose p hpB hpN g).mpr g2, (hedge g).mpr (Or.inl ⟨rfl, g1⟩)⟩
              | succ k =>
                obtain ⟨q, q1, q2⟩ := fa_next hf
                exact ⟨q, (hloose p hpB hpN q).mpr q1, (hedge q).mpr (Or.inr ⟨by omega, q2⟩)⟩
          refine ih (k + 1) n x5 more (left &&& (more ^^^ (-1 : Int32))) (by omega) (by omega) (xF_tr hF F5) (b8_andl hl8) (fun p => ?_) (fun p => ?_) (fun p hp => ?_)
          · rw [b_wos, Bool.and_eq_true, hleft p]
            constructor
            · rintro ⟨⟨z1, z2⟩, z3⟩
              refine ⟨z1, fun j hj hd => ?_⟩
              by_cases e : j = k + 1
              · subst e
                have : bt more p = true := (hm p).mpr ⟨hd, fun i hi => z2 i (by omega)⟩
                rw [this] at z3
                cases z3
              · exact z2 j (by omega) hd
            · rintro ⟨z1, z2⟩
              refine ⟨⟨z1, fun j hj => z2 j (by omega)⟩, ?_⟩
              have : ¬ bt more p = true := fun z => z2 (k + 1) (Nat.le_refl _) ((hm p).mp z).1
              simpa using this
          · rw [hm p]
            exact ⟨fun z => Or.inr ⟨by omega, z⟩, fun z => z.elim (fun k => by omega) (fun k => k.2)⟩
          · rw [hx5 p hp]
            by_cases cm : bt more p = true
            · rw [if_pos cm]
              exact Or.inl ⟨k + 1, Nat.le_refl _, (hm p).mp cm, rfl⟩
            · rw [if_neg cm]
              rcases hfar p hp with ⟨j, j1, j2, j3⟩ | ⟨j1, j2⟩
              · exact Or.inl ⟨j, by omega, j2, j3⟩
              · refine Or.inr ⟨fun j hj hf => ?_, j2⟩
                by_cases e : j = k + 1
                · subst e; exact cm ((hm p).mpr hf)
                · exact j1 j (by omega) hf
  refine key 8 0 mF x2 Gm S (by omega) (by decide) F2 h8 (fun p => ?_) (fun p => ?_) (fun p hp => Or.inr ⟨fun j hj hf => ?_, z2 p hp⟩)
  · exact ⟨fun z => ⟨z, fun j hj hd => by rw [show j = 0 by omega] at hd; exact hd⟩, fun z => z.1⟩
  · rw [hG p]
    exact ⟨fun z => Or.inl ⟨rfl, z⟩, fun z => z.elim (fun k => k.2) (fun k => by omega)⟩
  · rw [show j = 0 by omega] at hf
    exact hf.1
end E2
