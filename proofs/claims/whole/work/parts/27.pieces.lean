/-! ===== lowest posts, pieces ===== -/
theorem lowest_ok (s : Int32) : (∃ m, m < 8 ∧ bt s m = true ∧ (∀ i, i < m → ¬ bt s i = true) ∧ f_X10_lowest s = some (nI m)) ∨ ((∀ i, i < 8 → ¬ bt s i = true) ∧ f_X10_lowest s = some (-1)) := by
  unfold f_X10_lowest
  refine lp_up 8 (fun n b (_ : Unit) => f_X10_lowest_L2 s n b) (fun j _ => ∀ i, i < j → ¬ bt s i = true) (fun o => (∃ m, m < 8 ∧ bt s m = true ∧ (∀ i, i < m → ¬ bt s i = true) ∧ o = some (nI m)) ∨ ((∀ i, i < 8 → ¬ bt s i = true) ∧ o = some (-1))) ?_ ?_ mF 0 () (by decide) (by decide) (fun i hi => by omega)
  · intro n _ hI
    refine Or.inr ⟨hI, ?_⟩
    show f_X10_lowest_L2 s (n + 1) (nI 8) = _
    rw [f_X10_lowest_L2, if_pos (by decide)]
  · intro n j _ hj hI ih
    show (∃ m, m < 8 ∧ bt s m = true ∧ (∀ i, i < m → ¬ bt s i = true) ∧ f_X10_lowest_L2 s (n + 1) (nI j) = some (nI m)) ∨ ((∀ i, i < 8 → ¬ bt s i = true) ∧ f_X10_lowest_L2 s (n + 1) (nI j) = some (-1))
    rw [f_X10_lowest_L2, if_neg (k8f hj), nI_1]
    by_cases hb : bt s j = true
    · rw [if_neg (fun z => by rw [(b_has (by omega) s).mp z] at hb; cases hb)]
      exact Or.inl ⟨j, hj, hb, hI, rfl⟩
    · rw [if_pos ((b_has (by omega) s).mpr (by simpa using hb))]
      refine ih () (fun i hi => ?_)
      by_cases e : i = j
      · subst e; exact hb
      · exact hI i (by omega)
theorem lowest_at {s : Int32} {m : Nat} (hm : m < 8) (hb : bt s m = true) (h : ∀ i, i < m → ¬ bt s i = true) : f_X10_lowest s = some (nI m) := by
  rcases lowest_ok s with ⟨k, k1, k2, k3, k4⟩ | ⟨k1, _⟩
  · have : k = m := by
      rcases Nat.lt_trichotomy k m with e | e | e
      · exact absurd k2 (h k e)
      · exact e
      · exact absurd hb (k3 m e)
    rw [← this]; exact k4
  · exact absurd hb (k1 m hm)
theorem lowestOf_at {s : Int32} {m : Nat} (hm : m < 32) (hb : bt s m = true) (h : ∀ i, i < m → ¬ bt s i = true) : f_X11_lowestOf s = some (nI m) := by
  unfold f_X11_lowestOf
  refine lp_up m (fun n b (_ : Unit) => f_X11_lowestOf_L2 s n b) (fun _ _ => True) (fun o => o = some (nI m)) ?_ ?_ mF 0 () (Nat.lt_trans hm (by decide)) (by omega) trivial
  · intro n _ _
    show f_X11_lowestOf_L2 s (n + 1) (nI m) = _
    rw [f_X11_lowestOf_L2, if_neg (h11t hm hb)]
  · intro n j _ hj _ ih
    show f_X11_lowestOf_L2 s (n + 1) (nI j) = _
    rw [f_X11_lowestOf_L2, if_pos (h11f (by omega) (h j hj)), nI_1]
    exact ih () trivial
theorem b_least {s : Int32} {i : Nat} (h : bt s i = true) : ∃ m, m ≤ i ∧ bt s m = true ∧ ∀ j, j < m → ¬ bt s j = true := by
  induction i using Nat.strongRecOn with
  | _ i ih =>
    by_cases hc : ∃ j, j < i ∧ bt s j = true
    · obtain ⟨j, h1, h2⟩ := hc
      obtain ⟨m, m1, m2⟩ := ih j h1 h2
      exact ⟨m, by omega, m2⟩
    · exact ⟨i, Nat.le_refl _, h, fun j hj hb => hc ⟨j, hj, hb⟩⟩
/-- the least of its piece -/
def g_L (A : Nat → Nat → Prop) (V : Nat → Prop) (i : Nat) : Prop := V i ∧ ∀ j, j < i → ¬ g_C A V i j
section P1
variable {A : Nat → Nat → Prop} {V : Nat → Prop}
theorem g_L_ex {v : Nat} (h : V v) : ∃ m, g_L A V m ∧ g_C A V v m ∧ m ≤ v := by
  induction v using Nat.strongRecOn with
  | _ v ih =>
    by_cases hc : ∃ j, j < v ∧ g_C A V v j
    · obtain ⟨j, h1, h2⟩ := hc
      obtain ⟨m, m1, m2, m3⟩ := ih j h1 (g_in h2)
      exact ⟨m, m1, g_tr h2 m2, by omega⟩
    · exact ⟨v, ⟨h, fun j hj hb => hc ⟨j, hj, hb⟩⟩, g_rf h, Nat.le_refl _⟩
theorem g_L_un (hA : ∀ a b, A a b → A b a) {m k : Nat} (hm : g_L A V m) (hk : g_L A V k) (h : g_C A V m k) : m = k := by
  rcases Nat.lt_trichotomy m k with e | e | e
  · exact absurd (g_sy hA h) (hk.2 m e)
  · exact e
  · exact absurd h (hm.2 k e)
/-- what piece(.., i) answers -/
def pc_A (A : Nat → Nat → Prop) (V : Nat → Prop) (i r : Int32) : Prop := (∃ m, m < 8 ∧ g_L A V m ∧ i = nI (g_n (g_L A V) m) ∧ ∀ k, bt r k = true ↔ g_C A V m k) ∨ ((∀ m, m < 8 → g_L A V m → i ≠ nI (g_n (g_L A V) m)) ∧ r = if i = -1 then nI (g_n (g_L A V) 8) else -1)
theorem g_n_step {P : Nat → Prop} (n : Nat) (h : P n) : g_n P (n + 1) = g_n P n + 1 := by
  rw [g_n, if_pos h]
theorem g_n_stay {P : Nat → Prop} (n : Nat) (h : ¬ P n) : g_n P (n + 1) = g_n P n := by
  rw [g_n, if_neg h]; rfl
theorem g_n_mono {P : Nat → Prop} {a b : Nat} (h : a ≤ b) : g_n P a ≤ g_n P b := by
  induction b with
  | zero => rw [Nat.le_zero.mp h]; exact Nat.le_refl _
  | succ b ih =>
    by_cases e : a = b + 1
    · rw [e]; exact Nat.le_refl _
    · have := ih (by omega)
      rw [g_n]; omega
theorem g_n_inj {P : Nat → Prop} {a b : Nat} (ha : P a) (hb : P b) (h : g_n P a = g_n P b) : a = b := by
  rcases Nat.lt_trichotomy a b with e | e | e
  · have := g_n_mono (P := P) (show a + 1 ≤ b from e)
    rw [g_n_step a ha] at this; omega
  · exact e
  · have := g_n_mono (P := P) (show b + 1 ≤ a from e)
    rw [g_n_step b hb] at this; omega
theorem g_n_flat {P : Nat → Prop} {a b : Nat} (h : a ≤ b) (hn : ∀ c, a ≤ c → c < b → ¬ P c) : g_n P b = g_n P a := by
  induction b with
  | zero => rw [Nat.le_zero.mp h]
  | succ b ih =>
    by_cases e : a = b + 1
    · rw [e]
    · rw [g_n_stay b (hn b (by omega) (by omega)), ih (by omega) (fun c h1 h2 => hn c h1 (by omega))]
theorem pc_A_un {i r r' : Int32} (h : pc_A A V i r) (h' : pc_A A V i r') : r = r' := by
  have hlt : ∀ m, m < 8 → g_n (g_L A V) m < 2 ^ 31 := fun m hm => by have := g_n_bound (P := g_L A V) m; omega
  rcases h with ⟨m, m1, m2, m3, m4⟩ | ⟨n1, n2⟩
  · rcases h' with ⟨k, k1, k2, k3, k4⟩ | ⟨k1, k2⟩
    · have e : m = k := g_n_inj m2 k2 ((nI_eq (hlt m m1) (hlt k k1)).mp (m3.symm.trans k3))
      subst e
      exact b_eq_iff fun j => (m4 j).trans (k4 j).symm
    · exact absurd m3 (k1 m m1 m2)
  · rcases h' with ⟨k, k1, k2, k3, k4⟩ | ⟨k1, k2⟩
    · exact absurd k3 (n1 k k1 k2)
    · rw [n2, k2]
theorem isLeast_ok {p r0 : Nat} (hp : p < 8) {S : Int32} (hS : ∀ i, bt S i = true ↔ g_C A V p i) : (g_L A V p ∧ f_X3_isLeast r0 (nI p) S = some 1) ∨ (¬ g_L A V p ∧ f_X3_isLeast r0 (nI p) S = some 0) := by
  unfold f_X3_isLeast
  by_cases hv : V p
  · have hbp : bt S p = true := (hS p).mpr (g_rf hv)
    rw [if_neg (b_ne0 hbp)]
    obtain ⟨m, m1, m2, m3⟩ := b_least hbp
    rw [lowest_at (by omega) m2 m3, Option.bind_some]
    by_cases e : m = p
    · subst e
      rw [if_pos rfl]
      exact Or.inl ⟨⟨hv, fun j hj hc => m3 j hj ((hS j).mpr hc)⟩, rfl⟩
    · rw [if_neg (fun z => e ((nI_eq (by omega) (by omega)).mp z))]
      exact Or.inr ⟨fun h => h.2 m (by omega) ((hS m).mp m2), rfl⟩
  · have e0 : S = 0 := b_eq0 (fun i hi => hv ((hS i).mp hi).1)
    rw [if_pos e0]
    exact Or.inr ⟨fun h => hv h.1, rfl⟩
theorem pieceAt_ok {a : Nat} (x : mX) (hw : ∀ p, p < 8 → ∀ i, bt (x.1 (a + 2) p) i = true ↔ g_C A V p i) (i : Int32) : ∃ r, f_X3_pieceAt a i x = some r ∧ pc_A A V i r := by
  unfold f_X3_pieceAt
  refine lp_ok 8 (fun n b (s : Int32) => f_X3_pieceAt_L4 a i n s b x) (fun j s => s = nI (g_n (g_L A V) j) ∧ ∀ m, m < j → g_L A V m → i ≠ nI (g_n (g_L A V) m)) ?_ ?_ mF 0 0 (by decide) (by decide) ⟨rfl, fun m hm => by omega⟩
  · intro n s hI
    show ∃ r, f_X3_pieceAt_L4 a i (n + 1) s (nI 8) x = some r ∧ _
    rw [f_X3_pieceAt_L4, if_pos (by decide)]
    by_cases e : i = -1
    · rw [if_pos e]
      exact ⟨s, rfl, Or.inr ⟨hI.2, by rw [if_pos e]; exact hI.1⟩⟩
    · rw [if_neg e]
      exact ⟨-1, rfl, Or.inr ⟨hI.2, by rw [if_neg e]⟩⟩
  · intro n j s hj hI ih
    show ∃ r, f_X3_pieceAt_L4 a i (n + 1) s (nI j) x = some r ∧ _
    rw [f_X3_pieceAt_L4, if_neg (k8f hj), if_pos (in_ok hj (by decide)), cl (by omega), nI_1]
    rcases isLeast_ok (r0 := a) hj (hw j hj) with ⟨h1, h2⟩ | ⟨h1, h2⟩
    · rw [h2, Option.bind_some, if_neg (by decide)]
      by_cases e : s = i
      · rw [if_pos e, if_pos (in_ok hj (by decide))]
        exact ⟨_, rfl, Or.inl ⟨j, hj, h1, e.symm.trans hI.1, hw j hj⟩⟩
      · rw [if_neg e]
        refine ih _ ⟨by rw [hI.1, nI_1, g_n_step j h1], fun m hm hL => ?_⟩
        by_cases em : m = j
        · subst em; rw [← hI.1]; exact Ne.symm e
        · exact hI.2 m (by omega) hL
    · rw [h2, Option.bind_some, if_pos rfl]
      refine ih _ ⟨by rw [hI.1, g_n_stay j h1], fun m hm hL => ?_⟩
      by_cases em : m = j
      · subst em; exact absurd hL h1
      · exact hI.2 m (by omega) hL
/-- what is left when the pieces with a least post below t are gone -/
def pc_l (A : Nat → Nat → Prop) (V : Nat → Prop) (t : Nat) (left : Int32) : Prop := ∀ v, bt left v = true ↔ V v ∧ ∀ u, g_C A V v u → t ≤ u
theorem pc_l_next (hA : ∀ a b, A a b → A b a) {t m : Nat} {left S : Int32} (h : pc_l A V t left) (hm : bt left m = true) (hmin : ∀ j, j < m → ¬ bt left j = true) (hS : ∀ i, bt S i = true ↔ g_C A V m i) : t ≤ m ∧ g_L A V m ∧ (∀ c, t ≤ c → c < m → ¬ g_L A V c) ∧ pc_l A V (m + 1) (left &&& (S ^^^ (-1 : Int32))) := by
  have h1 := (h m).mp hm
  have htm : t ≤ m := h1.2 m (g_rf h1.1)
  have inl : ∀ c, g_L A V c → t ≤ c → bt left c = true := fun c hc htc => (h c).mpr ⟨hc.1, fun u hu => by
    refine Classical.byContradiction fun hlt => hc.2 u (by omega) hu⟩
  refine ⟨htm, ⟨h1.1, fun j hj hc => hmin j hj ((h j).mpr ⟨g_in hc, fun u hu => h1.2 u (g_tr hc hu)⟩)⟩, fun c hc1 hc2 hL => hmin c hc2 (inl c hL hc1), fun v => ?_⟩
  rw [b_wos, Bool.and_eq_true, h v]
  constructor
  · rintro ⟨⟨h2, h3⟩, h4⟩
    refine ⟨h2, fun u hu => ?_⟩
    refine Classical.byContradiction fun hlt => ?_
    have hu2 : bt left u = true := (h u).mpr ⟨g_in hu, fun z hz => h3 z (g_tr hu hz)⟩
    have : u = m := by
      rcases Nat.lt_trichotomy u m with e | e | e
      · exact absurd hu2 (hmin u e)
      · exact e
      · omega
    subst this
    have := (hS v).mpr (g_sy hA hu)
    rw [this] at h4
    cases h4
  · rintro ⟨h2, h3⟩
    refine ⟨⟨h2, fun u hu => by have := h3 u hu; omega⟩, ?_⟩
    have : ¬ bt S v = true := fun z => by
      have := h3 m (g_sy hA ((hS v).mp z))
      omega
    simpa using this
theorem pc_l_end {t : Nat} (ht : t ≤ 8) (hV : ∀ c, V c → c < 8) (h : pc_l A V t 0) : g_n (g_L A V) 8 = g_n (g_L A V) t := by
  refine g_n_flat ht (fun c h1 h2 hL => ?_)
  have := (h c).mpr ⟨hL.1, fun u hu => Classical.byContradiction fun hlt => hL.2 u (by omega) hu⟩
  rw [b_0] at this
  cases this
theorem pc_l_0 {P : Int32} : pc_l A (bS P) 0 P := fun v => ⟨fun h => ⟨h, fun u _ => Nat.zero_le _⟩, fun h => h.1⟩
end P1
theorem piece_L {w : Nat} (hw : w < 3) {A : Nat → Nat → Prop} {P : Int32} (hP : b8 P) (y : mY) (hA : ∀ a b, A a b → A b a) (hE : nA (fun p => y.1 293 (8 * w + p)) = A) (i : Int32) (hi : (-1 : Int32) ≤ i) : ∃ r, f_X11_piece_L26 (nI w) i P mF 0 P y = some r ∧ pc_A A (bS P) i r.1 ∧ r.2 = y := by
  refine lp_wo (fun n (s : Int32 × Int32) => f_X11_piece_L26 (nI w) i P n s.1 s.2 y) (fun s => g_n (fun k => bt s.2 k = true) 8) (fun s => ∃ t, t ≤ 8 ∧ s.1 = nI (g_n (g_L A (bS P)) t) ∧ pc_l A (bS P) t s.2 ∧ ∀ m, m < t → g_L A (bS P) m → i ≠ nI (g_n (g_L A (bS P)) m)) ?_ mF (0, P) (Nat.lt_of_le_of_lt (g_n_bound 8) (by decide)) ⟨0, by omega, rfl, pc_l_0, fun m hm => by omega⟩
  intro n s hI ih
  obtain ⟨t, t1, t2, t3, t4⟩ := hI
  show ∃ r, f_X11_piece_L26 (nI w) i P (n + 1) s.1 s.2 y = some r ∧ _
  rw [f_X11_piece_L26]
  by_cases h0 : s.2 = 0
  · rw [if_pos h0]
    rw [h0] at t3
    have e8 := pc_l_end (V := bS P) t1 (fun c hc => hP c hc) t3
    have all : ∀ m, m < 8 → g_L A (bS P) m → i ≠ nI (g_n (g_L A (bS P)) m) := fun m hm hL => by
      refine t4 m (Classical.byContradiction fun hge => ?_) hL
      have := (t3 m).mpr ⟨hL.1, fun u hu => Classical.byContradiction fun hlt => hL.2 u (by omega) hu⟩
      rw [b_0] at this
      cases this
    by_cases e : i = -1
    · rw [if_pos e]
      exact ⟨(s.1, y), rfl, Or.inr ⟨all, by rw [if_pos e, e8]; exact t2⟩, rfl⟩
    · rw [if_neg e]
      exact ⟨(-1, y), rfl, Or.inr ⟨all, by rw [if_neg e]⟩, rfl⟩
  · rw [if_neg h0]
    obtain ⟨k, hk⟩ := b_ex h0
    obtain ⟨m, m1, m2, m3⟩ := b_least hk
    have hm8 : m < 8 := hP m ((t3 m).mp m2).1
    rw [lowestOf_at (by omega) m2 m3, Option.bind_some]
    obtain ⟨S, e, hS⟩ := comes_ok hw hP y hm8 ((t3 m).mp m2).1
    rw [hE] at hS
    rw [e, Option.bind_some]
    obtain ⟨n1, n2, n3, n4⟩ := pc_l_next hA t3 m2 m3 hS
    have ec : g_n (g_L A (bS P)) m = g_n (g_L A (bS P)) t := g_n_flat n1 n3
    by_cases ei : s.1 = i
    · rw [if_pos ei]
      exact ⟨(S, y), rfl, Or.inl ⟨m, hm8, n2, by rw [ec, ← t2]; exact ei.symm, hS⟩, rfl⟩
    · rw [if_neg ei]
      refine ih (s.1 + 1, s.2 &&& (S ^^^ (-1 : Int32))) ⟨m + 1, by omega, ?_, n4, fun c hc hL => ?_⟩ ?_
      · show s.1 + 1 = _
        rw [t2, nI_1, g_n_step m n2, ec]
      · by_cases ecm : c = m
        · subst ecm; rw [ec, ← t2]; exact Ne.symm ei
        · by_cases hct : c < t
          · exact t4 c hct hL
          · exact absurd hL (n3 c (by omega) (by omega))
      · refine g_n_lt 8 m hm8 (fun c _ hc => ?_) m2 (fun hc => ?_)
        · have hc' : bt (s.2 &&& (S ^^^ (-1 : Int32))) c = true := hc
          rw [b_wos, Bool.and_eq_true] at hc'
          exact hc'.1
        · have hc' : bt (s.2 &&& (S ^^^ (-1 : Int32))) m = true := hc
          rw [b_wos, Bool.and_eq_true, (hS m).mpr (g_rf ((t3 m).mp m2).1)] at hc'
          exact absurd hc'.2 (by decide)
theorem piecesOf_ok {w : Nat} (hw : w < 3) {A : Nat → Nat → Prop} {P : Int32} (hP : b8 P) (y : mY) (hA : ∀ a b, A a b → A b a) (hE : nA (fun p => y.1 293 (8 * w + p)) = A) : f_X11_piecesOf (nI w) P y = some (nI (g_n (g_L A (bS P)) 8)) := by
  unfold f_X11_piecesOf
  refine lp_wh (fun n (s : Int32 × Int32) => f_X11_piecesOf_L5 (nI w) P n s.1 s.2 y) (fun s => g_n (fun k => bt s.2 k = true) 8) (fun s => ∃ t, t ≤ 8 ∧ s.1 = nI (g_n (g_L A (bS P)) t) ∧ pc_l A (bS P) t s.2) (fun o => o = some (nI (g_n (g_L A (bS P)) 8))) ?_ mF (0, P) (Nat.lt_of_le_of_lt (g_n_bound 8) (by decide)) ⟨0, by omega, rfl, pc_l_0⟩
  intro n s hI ih
  obtain ⟨t, t1, t2, t3⟩ := hI
  show f_X11_piecesOf_L5 (nI w) P (n + 1) s.1 s.2 y = _
  rw [f_X11_piecesOf_L5]
  by_cases h0 : s.2 = 0
  · rw [if_pos h0]
    rw [h0] at t3
    rw [pc_l_end (V := bS P) t1 (fun c hc => hP c hc) t3, t2]
  · rw [if_neg h0]
    obtain ⟨k, hk⟩ := b_ex h0
    obtain ⟨m, m1, m2, m3⟩ := b_least hk
    have hm8 : m < 8 := hP m ((t3 m).mp m2).1
    rw [lowestOf_at (by omega) m2 m3, Option.bind_some]
    obtain ⟨S, e, hS⟩ := comes_ok hw hP y hm8 ((t3 m).mp m2).1
    rw [hE] at hS
    rw [e, Option.bind_some]
    obtain ⟨n1, n2, n3, n4⟩ := pc_l_next hA t3 m2 m3 hS
    refine ih (s.1 + 1, s.2 &&& (S ^^^ (-1 : Int32))) ⟨m + 1, by omega, ?_, n4⟩ ?_
    · show s.1 + 1 = _
      rw [t2, nI_1, g_n_step m n2, g_n_flat n1 n3]
    · refine g_n_lt 8 m hm8 (fun c _ hc => ?_) m2 (fun hc => ?_)
      · have hc' : bt (s.2 &&& (S ^^^ (-1 : Int32))) c = true := hc
        rw [b_wos, Bool.and_eq_true] at hc'
        exact hc'.1
      · have hc' : bt (s.2 &&& (S ^^^ (-1 : Int32))) m = true := hc
        rw [b_wos, Bool.and_eq_true, (hS m).mpr (g_rf ((t3 m).mp m2).1)] at hc'
        exact absurd hc'.2 (by decide)
