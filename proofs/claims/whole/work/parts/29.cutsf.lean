/-! ===== cuts and bridges, of class and reference ===== -/
/-- a net: links go both ways, between two unlike posts of it, eight at most -/
def g_N (A : Nat → Nat → Prop) (V : Nat → Prop) : Prop := (∀ a b, A a b → A b a) ∧ (∀ a b, A a b → V a ∧ V b ∧ a ≠ b) ∧ ∀ c, V c → c < 8
theorem nI_m1 {m : Nat} (h : m < 2 ^ 31) : nI m ≠ -1 := fun e => by
  have := nI_pos h
  rw [e] at this
  exact this (by decide)
section C2
variable {A : Nat → Nat → Prop} {P : Int32} {σ : Nat → Int32} {L : Int32}
theorem cutPosts_ok {a : Nat} (ha : n_adr a) (x : mX) (hN : g_N A (bS P)) (hn : ∀ p, p < 8 → ∀ q, bt (x.1 (a + 1) p) q = true ↔ A p q) (hD : n_div x.1 a P A) : ∃ r, f_X3_cutPosts a x = some r ∧ ∀ i, bt r i = true ↔ g_K A (bS P) i := by
  unfold f_X3_cutPosts
  refine lp_ok 8 (fun n b (s : Int32) => f_X3_cutPosts_L4 a n s b x) (fun j s => ∀ i, bt s i = true ↔ i < j ∧ g_K A (bS P) i) ?_ ?_ mF 0 0 (by decide) (by decide) (fun i => by rw [b_0]; exact ⟨fun h => (by cases h), fun h => absurd h.1 (by omega)⟩)
  · intro n s hI
    show ∃ r, f_X3_cutPosts_L4 a (n + 1) s (nI 8) x = some r ∧ _
    rw [f_X3_cutPosts_L4, if_pos (by decide)]
    refine ⟨s, rfl, fun i => ?_⟩
    rw [hI i]
    exact ⟨fun h => h.2, fun h => ⟨hN.2.2 i h.1, h⟩⟩
  · intro n j s hj hI ih
    show ∃ r, f_X3_cutPosts_L4 a (n + 1) s (nI j) x = some r ∧ _
    rw [f_X3_cutPosts_L4, if_neg (k8f hj), if_pos (in_ok hj (by decide)), cl (by omega), nI_1]
    have skip : ¬ g_K A (bS P) j → ∃ r, f_X3_cutPosts_L4 a n s (nI (j + 1)) x = some r ∧ ∀ i, bt r i = true ↔ g_K A (bS P) i := by
      intro hno
      refine ih s (fun i => ?_)
      rw [hI i]
      refine ⟨fun h => ⟨by omega, h.2⟩, fun h => ⟨?_, h.2⟩⟩
      have : i ≠ j := fun e => hno (e ▸ h.2)
      omega
    rcases lowest_ok (x.1 (a + 1) j) with ⟨m, m1, m2, _, m4⟩ | ⟨m1, m2⟩
    · have hm := (hn j hj m).mp m2
      rw [m4, Option.bind_some, if_neg (nI_m1 (by omega)), if_pos (in_ok hj (by decide)), without_ok ha hj m1, Option.bind_some]
      by_cases hz : ((x.1 (a + 1) j) &&& ((x.1 (a + 4) (j * 8 + m)) ^^^ (-1 : Int32))) = 0
      · rw [if_pos hz]
        rw [b_sub] at hz
        refine skip ?_
        rintro ⟨_, u, v, u1, v1, _, _, _, _, k⟩
        have hu := (hD.2 j hj m m1 u).mp (hz u ((hn j hj u).mpr u1))
        have hv := (hD.2 j hj m m1 v).mp (hz v ((hn j hj v).mpr v1))
        exact k (g_tr (g_sy hN.1 hu) hv)
      · rw [if_neg hz]
        rw [b_sub] at hz
        have hK : g_K A (bS P) j := by
          refine Classical.byContradiction fun hc => hz fun i hi => ?_
          refine (hD.2 j hj m m1 i).mpr ?_
          have hi2 := (hn j hj i).mp hi
          refine Classical.byContradiction fun hk => hc ⟨(hN.2.1 _ _ hm).1, m, i, hm, hi2, (hN.2.1 _ _ hm).2.1, (hN.2.1 _ _ hi2).2.1, Ne.symm (hN.2.1 _ _ hm).2.2, Ne.symm (hN.2.1 _ _ hi2).2.2, hk⟩
        refine ih _ (fun i => ?_)
        rw [b_or, b_bit (by omega), Bool.or_eq_true, decide_eq_true_eq, hI i]
        constructor
        · rintro (h | rfl)
          · exact ⟨by omega, h.2⟩
          · exact ⟨by omega, hK⟩
        · intro h
          by_cases e : i = j
          · exact Or.inr e
          · exact Or.inl ⟨by omega, h.2⟩
    · rw [m2, Option.bind_some, if_pos rfl]
      refine skip ?_
      rintro ⟨_, u, v, u1, _⟩
      exact m1 u (hN.2.2 u (hN.2.1 _ _ u1).2.1) ((hn j hj u).mpr u1)
theorem cuts_L {w : Nat} (hw : w < 3) (h8 : b8 P) (y : mY) (hN : g_N A (bS P)) (hE : nA (fun p => y.1 293 (8 * w + p)) = A) : ∃ r, f_X11_cuts_L28 (nI w) P (nI (g_n (g_L A (bS P)) 8)) mF 0 0 y = some r ∧ (∀ i, bt r.1 i = true ↔ g_K A (bS P) i) ∧ r.2 = y := by
  refine lp_ok 8 (fun n b (s : Int32) => f_X11_cuts_L28 (nI w) P (nI (g_n (g_L A (bS P)) 8)) n s b y) (fun j s => ∀ i, bt s i = true ↔ i < j ∧ g_K A (bS P) i) ?_ ?_ mF 0 0 (by decide) (by decide) (fun i => by rw [b_0]; exact ⟨fun h => (by cases h), fun h => absurd h.1 (by omega)⟩)
  · intro n s hI
    show ∃ r, f_X11_cuts_L28 (nI w) P (nI (g_n (g_L A (bS P)) 8)) (n + 1) s (nI 8) y = some r ∧ _
    rw [f_X11_cuts_L28, if_pos (by decide)]
    refine ⟨(s, y), rfl, fun i => ?_, rfl⟩
    show bt s i = true ↔ _
    rw [hI i]
    exact ⟨fun h => h.2, fun h => ⟨hN.2.2 i h.1, h⟩⟩
  · intro n j s hj hI ih
    show ∃ r, f_X11_cuts_L28 (nI w) P (nI (g_n (g_L A (bS P)) 8)) (n + 1) s (nI j) y = some r ∧ _
    rw [f_X11_cuts_L28, if_neg (k8f hj), nI_1]
    have skip : ¬ g_K A (bS P) j → ∃ r, f_X11_cuts_L28 (nI w) P (nI (g_n (g_L A (bS P)) 8)) n s (nI (j + 1)) y = some r ∧ (∀ i, bt r.1 i = true ↔ g_K A (bS P) i) ∧ r.2 = y := by
      intro hno
      refine ih s (fun i => ?_)
      rw [hI i]
      refine ⟨fun h => ⟨by omega, h.2⟩, fun h => ⟨?_, h.2⟩⟩
      have : i ≠ j := fun e => hno (e ▸ h.2)
      omega
    by_cases hPj : bt P j = true
    · rw [if_neg (h11t (by omega) hPj), piecesOf_ok hw (b8_andl h8) y hN.1 hE, Option.bind_some, bS_woE (by omega)]
      have hcut := g_cut_n hN.1 hN.2.2 (p := j) hPj
      have b1 := g_n_bound (P := g_L A (bS P)) 8
      have b2 := g_n_bound (P := g_L A (g_D (bS P) j)) 8
      by_cases hle : g_n (g_L A (g_D (bS P) j)) 8 ≤ g_n (g_L A (bS P)) 8
      · rw [if_pos ((nI_leI (by omega) (by omega)).mpr hle)]
        exact skip (fun hK => by have := hcut.mpr hK; omega)
      · rw [if_neg (fun z => hle ((nI_leI (by omega) (by omega)).mp z))]
        refine ih _ (fun i => ?_)
        rw [b_or, b_bit (by omega), Bool.or_eq_true, decide_eq_true_eq, hI i]
        constructor
        · rintro (h | rfl)
          · exact ⟨by omega, h.2⟩
          · exact ⟨by omega, hcut.mp (by omega)⟩
        · intro h
          by_cases e : i = j
          · exact Or.inr e
          · exact Or.inl ⟨by omega, h.2⟩
    · rw [if_pos (h11f (by omega) hPj)]
      exact skip (fun hK => hPj hK.1)
/-- link l is a bridge -/
def br_l (σ : Nat → Int32) (L P : Int32) (l : Nat) : Prop := bt L l = true ∧ ∃ p q, p < q ∧ q < 8 ∧ sE σ l p q ∧ ∀ w, g_B (sA σ L) (bS P) p q w ↔ w = p ∨ w = q
/-- what is asked of the links L of a state -/
def s_N (σ : Nat → Int32) (np : Nat) (P L : Int32) : Prop := sW σ np ∧ g_N (sA σ L) (bS P) ∧ (∀ l, bt L l = true → l < sm σ) ∧ b8 P
theorem s_un {np : Nat} (h : s_N σ np P L) {l k a b : Nat} (hl : bt L l = true) (hk : bt L k = true) (ha : a < 8) (hb : b < 8) (e1 : sE σ l a b) (e2 : sE σ k a b) : l = k :=
  h.1.2.2.2.2.2.2.2.1 l k a b (h.2.2.1 l hl) (h.2.2.1 k hk) ha hb e1 e2
theorem linkOf_ok {np a : Nat} (x : mX) (hN : s_N σ np P L) (ho : n_ok x.1 a σ P L) {p q : Nat} (hp : p < 8) (hq : q < 8) : (∃ l, l < 16 ∧ bt L l = true ∧ sE σ l p q ∧ f_X3_linkOf a (nI p) (nI q) x = some (nI l)) ∨ (¬ sA σ L p q ∧ f_X3_linkOf a (nI p) (nI q) x = some (-1)) := by
  obtain ⟨o1, o2, o3, o4, o5, o6⟩ := ho
  unfold f_X3_linkOf
  rw [if_pos (in_ok hp (by decide)), cl (by omega)]
  by_cases h : bt (x.1 (a + 1) p) q = true
  · obtain ⟨_, _, l, l1, l2, l3⟩ := (o3 p hp q).mp h
    rw [if_neg (h10t (by omega) h), show nI p * (8 : Int32) = nI (p * 8) from pk_mul p 8, nI_add, if_pos (in_ok (by omega) (by decide)), cl (by omega), o6 l p q l1 l2 hp hq l3]
    exact Or.inl ⟨l, l1, l2, l3, rfl⟩
  · rw [if_pos (h10f (by omega) h)]
    exact Or.inr ⟨fun z => h ((o3 p hp q).mpr z), rfl⟩
theorem blockOf_ok {a : Nat} (x : mX) {V : Nat → Prop} (hm : ∀ p, p < 8 → ∀ i, bt (x.1 (a + 5) p) i = true ↔ g_M A V p i) {p q : Nat} (hp : p < 8) (hq : q < 8) : ∃ r, f_X3_blockOf a (nI p) (nI q) x = some r ∧ ∀ i, bt r i = true ↔ g_B A V p q i := by
  unfold f_X3_blockOf
  rw [if_pos (in_ok hp (by decide)), if_pos (in_ok hq (by decide)), cl (by omega), cl (by omega)]
  refine ⟨_, rfl, fun i => ?_⟩
  rw [b_and, Bool.and_eq_true, hm p hp i, hm q hq i]
  exact Iff.rfl
/-- bridges seen up to the pair j, k -/
def br_s (σ : Nat → Int32) (L P : Int32) (j k l : Nat) : Prop := bt L l = true ∧ ∃ p q, p < q ∧ q < 8 ∧ (p < j ∨ p = j ∧ q < k) ∧ sE σ l p q ∧ ∀ w, g_B (sA σ L) (bS P) p q w ↔ w = p ∨ w = q
theorem bridgeLinks_in {np a : Nat} (x : mX) (hN : s_N σ np P L) (ho : n_ok x.1 a σ P L) {j : Nat} (hj : j < 8) {Q : Option Int32 → Prop} (kk : Int32 → Option Int32) (s0 : Int32) (h0 : ∀ l, bt s0 l = true ↔ br_s σ L P j (j + 1) l) (hk : ∀ s, (∀ l, bt s l = true ↔ br_s σ L P (j + 1) 0 l) → Q (kk s)) : Q (f_X3_bridgeLinks_L14 a (nI j) mF s0 (nI (j + 1)) x kk) := by
  refine lp_up 8 (fun n b (s : Int32) => f_X3_bridgeLinks_L14 a (nI j) n s b x kk) (fun k s => j < k ∧ ∀ l, bt s l = true ↔ br_s σ L P j k l) Q ?_ ?_ mF (j + 1) s0 (Nat.lt_of_lt_of_le (show 8 < mF by decide) (by omega)) (by omega) ⟨by omega, h0⟩
  · intro n s hI
    show Q (f_X3_bridgeLinks_L14 a (nI j) (n + 1) s (nI 8) x kk)
    rw [f_X3_bridgeLinks_L14, if_pos (by decide)]
    refine hk s (fun l => ?_)
    rw [hI.2 l]
    constructor
    · rintro ⟨h1, p, q, h2, h3, h4, h5⟩
      exact ⟨h1, p, q, h2, h3, by omega, h5⟩
    · rintro ⟨h1, p, q, h2, h3, h4, h5⟩
      exact ⟨h1, p, q, h2, h3, by omega, h5⟩
  · intro n k s hk8 hI ih
    obtain ⟨hjk, hI⟩ := hI
    show Q (f_X3_bridgeLinks_L14 a (nI j) (n + 1) s (nI k) x kk)
    rw [f_X3_bridgeLinks_L14, if_neg (k8f hk8), nI_1]
    have skip : (∀ l, ¬ (bt L l = true ∧ sE σ l j k ∧ ∀ w, g_B (sA σ L) (bS P) j k w ↔ w = j ∨ w = k)) → Q (f_X3_bridgeLinks_L14 a (nI j) n s (nI (k + 1)) x kk) := by
      intro hno
      refine ih s ⟨by omega, fun l => ?_⟩
      rw [hI l]
      constructor
      · rintro ⟨h1, p, q, h2, h3, h4, h5⟩
        exact ⟨h1, p, q, h2, h3, by omega, h5⟩
      · rintro ⟨h1, p, q, h2, h3, h4, h5⟩
        refine ⟨h1, p, q, h2, h3, ?_, h5⟩
        by_cases e : p = j ∧ q = k
        · obtain ⟨rfl, rfl⟩ := e
          exact absurd ⟨h1, h5⟩ (hno l)
        · omega
    rcases linkOf_ok x hN ho hj hk8 with ⟨l, l1, l2, l3, l4⟩ | ⟨l1, l2⟩
    · rw [l4, Option.bind_some, if_neg (nI_m1 (by omega)), ho.2.1, if_neg (h10t (by omega) l2)]
      obtain ⟨r, r1, r2⟩ := blockOf_ok (A := sA σ L) (V := bS P) x ho.2.2.2.2.1 hj hk8
      rw [r1, Option.bind_some]
      by_cases hr : r = (((1 : Int32) <<< (nI j &&& 31)) ||| ((1 : Int32) <<< (nI k &&& 31)))
      · rw [if_pos hr]
        have hB : ∀ w, g_B (sA σ L) (bS P) j k w ↔ w = j ∨ w = k := fun w => by
          rw [← r2 w, hr, b_or, b_bit (by omega), b_bit (by omega), Bool.or_eq_true, decide_eq_true_eq, decide_eq_true_eq]
        refine ih _ ⟨by omega, fun i => ?_⟩
        rw [b_or, b_bit (by omega), Bool.or_eq_true, decide_eq_true_eq, hI i]
        constructor
        · rintro (⟨h1, p, q, h2, h3, h4, h5⟩ | rfl)
          · exact ⟨h1, p, q, h2, h3, by omega, h5⟩
          · exact ⟨l2, j, k, hjk, hk8, by omega, l3, hB⟩
        · rintro ⟨h1, p, q, h2, h3, h4, h5, h6⟩
          by_cases e : p = j ∧ q = k
          · obtain ⟨rfl, rfl⟩ := e
            exact Or.inr (s_un hN h1 l2 (by omega) h3 h5 l3)
          · exact Or.inl ⟨h1, p, q, h2, h3, by omega, h5, h6⟩
      · rw [if_neg hr]
        refine skip (fun i hi => hr (b_eq_iff fun w => ?_))
        rw [r2 w, hi.2.2 w, b_or, b_bit (by omega), b_bit (by omega), Bool.or_eq_true, decide_eq_true_eq, decide_eq_true_eq]
    · rw [l2, Option.bind_some, if_pos rfl]
      refine skip (fun i hi => l1 ⟨hj, hk8, i, Nat.lt_of_lt_of_le (hN.2.2.1 i hi.1) hN.1.2.2.1, hi.1, hi.2.1⟩)
theorem bridgeLinks_ok {np a : Nat} (x : mX) (hN : s_N σ np P L) (ho : n_ok x.1 a σ P L) : ∃ r, f_X3_bridgeLinks a x = some r ∧ ∀ l, bt r l = true ↔ br_l σ L P l := by
  unfold f_X3_bridgeLinks
  refine lp_ok 8 (fun n b (s : Int32) => f_X3_bridgeLinks_L4 a n s b x) (fun j s => ∀ l, bt s l = true ↔ br_s σ L P j 0 l) ?_ ?_ mF 0 0 (by decide) (by decide) (fun i => ?_)
  · intro n s hI
    show ∃ r, f_X3_bridgeLinks_L4 a (n + 1) s (nI 8) x = some r ∧ _
    rw [f_X3_bridgeLinks_L4, if_pos (by decide)]
    refine ⟨s, rfl, fun l => ?_⟩
    rw [hI l]
    constructor
    · rintro ⟨h1, p, q, h2, h3, h4, h5⟩
      exact ⟨h1, p, q, h2, h3, h5⟩
    · rintro ⟨h1, p, q, h2, h3, h5⟩
      exact ⟨h1, p, q, h2, h3, by omega, h5⟩
  · intro n j s hj hI ih
    show ∃ r, f_X3_bridgeLinks_L4 a (n + 1) s (nI j) x = some r ∧ _
    rw [f_X3_bridgeLinks_L4, if_neg (k8f hj), nI_1]
    refine bridgeLinks_in (Q := fun o => ∃ r, o = some r ∧ ∀ l, bt r l = true ↔ br_l σ L P l) x hN ho hj _ s (fun l => ?_) (fun s' hs' => ih s' hs')
    rw [hI l]
    constructor
    · rintro ⟨h1, p, q, h2, h3, h4, h5⟩
      exact ⟨h1, p, q, h2, h3, by omega, h5⟩
    · rintro ⟨h1, p, q, h2, h3, h4, h5⟩
      exact ⟨h1, p, q, h2, h3, by omega, h5⟩
  · rw [b_0]
    refine ⟨fun h => (by cases h), ?_⟩
    rintro ⟨_, p, q, h2, h3, h4, _⟩
    omega
/-- the links less one -/
theorem sA_less {np : Nat} (hN : s_N σ np P L) {l a b : Nat} (hl : bt L l = true) (ha : a < 8) (hb : b < 8) (he : sE σ l a b) (c d : Nat) : sA σ (L &&& (((1 : Int32) <<< (nI l &&& 31)) ^^^ (-1 : Int32))) c d ↔ sA σ L c d ∧ ¬ (c = a ∧ d = b) ∧ ¬ (c = b ∧ d = a) := by
  have hl16 : l < 16 := Nat.lt_of_lt_of_le (hN.2.2.1 l hl) hN.1.2.2.1
  have key : ∀ k, bt (L &&& (((1 : Int32) <<< (nI l &&& 31)) ^^^ (-1 : Int32))) k = true ↔ bt L k = true ∧ k ≠ l := fun k => by
    rw [b_wo (by omega)]
    simp
  constructor
  · rintro ⟨hc, hd, k, k1, k2, k3⟩
    have hk := (key k).mp k2
    refine ⟨⟨hc, hd, k, k1, hk.1, k3⟩, ?_, ?_⟩
    · rintro ⟨rfl, rfl⟩
      exact hk.2 (s_un hN hk.1 hl ha hb k3 he)
    · rintro ⟨rfl, rfl⟩
      exact hk.2 (s_un hN hk.1 hl ha hb (sE_sy k3) he)
  · rintro ⟨⟨hc, hd, k, k1, k2, k3⟩, n1, n2⟩
    refine ⟨hc, hd, k, k1, (key k).mpr ⟨k2, ?_⟩, k3⟩
    rintro rfl
    obtain ⟨u, v, hu, hv, _, e1, e2⟩ := hN.1.2.2.2.2.2.2.1 k (hN.2.2.1 k hl)
    have hu8 : u < 8 := Nat.lt_of_lt_of_le hu hN.1.1
    have hv8 : v < 8 := Nat.lt_of_lt_of_le hv hN.1.1
    have q1 := (sE_iff hu8 hv8 ha hb e1 e2).mp he
    have q2 := (sE_iff hu8 hv8 hc hd e1 e2).mp k3
    omega
theorem bridges_L {np : Nat} (y : mY) (hσ : y.1 289 = σ) (hN : s_N σ np P L) : ∃ r, f_X11_bridges_L47 P L (nI (g_n (g_L (sA σ L) (bS P)) 8)) mF 0 0 y = some r ∧ (∀ l, bt r.1 l = true ↔ br_l σ L P l) ∧ yR 293 16 24 y r.2 := by
  subst hσ
  have hW := hN.1
  obtain ⟨w1, w2, w3, w4, w5, w6, w7, w8, w9⟩ := hW
  refine lp_ok (sm (y.1 289)) (fun n b (s : Int32 × mY) => f_X11_bridges_L47 P L (nI (g_n (g_L (sA (y.1 289) L) (bS P)) 8)) n s.1 b s.2) (fun j s => (∀ l, bt s.1 l = true ↔ l < j ∧ br_l (y.1 289) L P l) ∧ yR 293 16 24 y s.2) ?_ ?_ mF 0 (0, y) (Nat.lt_of_le_of_lt w3 (by decide)) (by omega) ⟨fun i => by rw [b_0]; exact ⟨fun h => (by cases h), fun h => absurd h.1 (by omega)⟩, yR_rf _ _ _ _⟩
  · intro n s hI
    show ∃ r, f_X11_bridges_L47 P L (nI (g_n (g_L (sA (y.1 289) L) (bS P)) 8)) (n + 1) s.1 (nI (sm (y.1 289))) s.2 = some r ∧ _
    rw [f_X11_bridges_L47, if_pos (by rw [hI.2.1 289 (by decide), w2]; exact (nI_leI (by omega) (by omega)).mpr (Nat.le_refl _))]
    refine ⟨s, rfl, fun l => ?_, hI.2⟩
    rw [hI.1 l]
    exact ⟨fun h => h.2, fun h => ⟨hN.2.2.1 l h.1, h⟩⟩
  · intro n j s hj hI ih
    show ∃ r, f_X11_bridges_L47 P L (nI (g_n (g_L (sA (y.1 289) L) (bS P)) 8)) (n + 1) s.1 (nI j) s.2 = some r ∧ _
    have eσ : s.2.1 289 = y.1 289 := hI.2.1 289 (by decide)
    rw [f_X11_bridges_L47, if_neg (by rw [eσ, w2]; exact fun z => absurd ((nI_leI (by omega) (by omega)).mp z) (by omega)), nI_1]
    by_cases hl : bt L j = true
    · obtain ⟨a, b, ha, hb, hab, e1, e2⟩ := w7 j hj
      have ha8 : a < 8 := by omega
      have hb8 : b < 8 := by omega
      have hse : sE (y.1 289) j a b := Or.inl ⟨e1, e2⟩
      have hAab : sA (y.1 289) L a b := ⟨ha8, hb8, j, by omega, hl, hse⟩
      have hless := sA_less hN hl ha8 hb8 hse
      rw [if_neg (h11t (by omega) hl)]
      obtain ⟨y', l1, l2, l3⟩ := lays_ok (w := 2) (np := np) (by decide) (L := L &&& (((1 : Int32) <<< (nI j &&& 31)) ^^^ (-1 : Int32))) s.2 (by rw [eσ]; exact hN.1) (fun l hlb => by
        rw [eσ]
        rw [b_and, Bool.and_eq_true] at hlb
        exact hN.2.2.1 l hlb.1)
      rw [show (2 : Int32) = nI 2 from rfl, l1, Option.bind_some, piecesOf_ok (w := 2) (A := sA (y.1 289) (L &&& (((1 : Int32) <<< (nI j &&& 31)) ^^^ (-1 : Int32)))) (by decide) hN.2.2.2 y' sA_sy (by rw [← eσ]; exact nA_sA l3), Option.bind_some]
      have hb1 := g_n_bound (P := g_L (sA (y.1 289) L) (bS P)) 8
      have hb2 := g_n_bound (P := g_L (sA (y.1 289) (L &&& (((1 : Int32) <<< (nI j &&& 31)) ^^^ (-1 : Int32)))) (bS P)) 8
      have hV := hN.2.1.2.1 a b hAab
      have key1 := g_bridge_n hN.2.1.1 sA_sy hN.2.1.2.2 hAab hV.1 hV.2.1 hless
      have key2 := g_bridge_b hN.2.1.1 hab hAab hV.1 hV.2.1 hless
      have key : g_n (g_L (sA (y.1 289) L) (bS P)) 8 < g_n (g_L (sA (y.1 289) (L &&& (((1 : Int32) <<< (nI j &&& 31)) ^^^ (-1 : Int32)))) (bS P)) 8 ↔ br_l (y.1 289) L P j := by
        rw [key1, key2]
        constructor
        · intro h
          refine ⟨hl, ?_⟩
          by_cases hlt : a < b
          · exact ⟨a, b, hlt, hb8, hse, h⟩
          · refine ⟨b, a, by omega, ha8, sE_sy hse, fun w => ?_⟩
            rw [Or.comm]
            exact ⟨fun k => (h w).mp ⟨k.2, k.1⟩, fun k => ⟨((h w).mpr k).2, ((h w).mpr k).1⟩⟩
        · rintro ⟨_, p, q, h2, h3, h4, h5⟩
          rcases (sE_iff ha8 hb8 (by omega) h3 e1 e2).mp h4 with ⟨rfl, rfl⟩ | ⟨rfl, rfl⟩
          · exact h5
          · intro w
            rw [Or.comm]
            exact ⟨fun k => (h5 w).mp ⟨k.2, k.1⟩, fun k => ⟨((h5 w).mpr k).2, ((h5 w).mpr k).1⟩⟩
      have hfr : yR 293 16 24 y y' := yR_tr hI.2 l2
      by_cases hle : g_n (g_L (sA (y.1 289) (L &&& (((1 : Int32) <<< (nI j &&& 31)) ^^^ (-1 : Int32)))) (bS P)) 8 ≤ g_n (g_L (sA (y.1 289) L) (bS P)) 8
      · rw [if_pos ((nI_leI (by omega) (by omega)).mpr hle)]
        refine ih (s.1, y') ⟨fun l => ?_, hfr⟩
        show bt s.1 l = true ↔ _
        rw [hI.1 l]
        refine ⟨fun h => ⟨by omega, h.2⟩, fun h => ⟨?_, h.2⟩⟩
        have : l ≠ j := fun e => by
          have := key.mpr (e ▸ h.2)
          omega
        omega
      · rw [if_neg (fun z => hle ((nI_leI (by omega) (by omega)).mp z))]
        refine ih (s.1 ||| ((1 : Int32) <<< (nI j &&& 31)), y') ⟨fun l => ?_, hfr⟩
        show bt (s.1 ||| ((1 : Int32) <<< (nI j &&& 31))) l = true ↔ _
        rw [b_or, b_bit (by omega), Bool.or_eq_true, decide_eq_true_eq, hI.1 l]
        constructor
        · rintro (h | rfl)
          · exact ⟨by omega, h.2⟩
          · exact ⟨by omega, key.mp (by omega)⟩
        · intro h
          by_cases e : l = j
          · exact Or.inr e
          · exact Or.inl ⟨by omega, h.2⟩
    · rw [if_pos (h11f (by omega) hl)]
      refine ih (s.1, s.2) ⟨fun l => ?_, hI.2⟩
      show bt s.1 l = true ↔ _
      rw [hI.1 l]
      refine ⟨fun h => ⟨by omega, h.2⟩, fun h => ⟨?_, h.2⟩⟩
      have : l ≠ j := fun e => hl (e ▸ h.2.1)
      omega
end C2
