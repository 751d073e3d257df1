/-! ===== what the tables hold; the class's settle and prepare ===== -/
section S1
variable {A : Nat → Nat → Prop} {V : Nat → Prop}
/-- own block n, head p, last t, order f, hops of v by the root r -/
def tb_ok (A : Nat → Nat → Prop) (V : Nat → Prop) (r v n p t : Nat) (f : Nat → Nat) (rd bl : Nat) : Prop :=
  g_C A V v r ∧ v ≠ r ∧ g_H A V r v p ∧ n < 256 ∧ (∀ i, bt (nI n) i = true ↔ g_B A V v p i) ∧ la_t A (g_B A V v p) p t ∧ od_1 A (g_B A V v p) p t (g_n (g_B A V v p) 8) f ∧ hp_r A (g_n (g_B A V v p) 8) f t v rd ∧ hp_b A (g_n (g_B A V v p) 8) f p t v bl
theorem tb_un (hN : g_N A V) {r v n p t rd bl n' p' t' rd' bl' : Nat} {f f' : Nat → Nat} (h : tb_ok A V r v n p t f rd bl) (h' : tb_ok A V r v n' p' t' f' rd' bl') : n = n' ∧ p = p' ∧ t = t' ∧ rd = rd' ∧ bl = bl' ∧ ∀ i, i < g_n (g_B A V v p) 8 → f i = f' i := by
  obtain ⟨a1, a2, a3, a4, a5, a6, a7, a8, a9⟩ := h
  obtain ⟨b1, b2, b3, b4, b5, b6, b7, b8, b9⟩ := h'
  have e := g_H_un hN.1 a1 a3 b3
  subst e
  have e := la_un a6 b6
  subst e
  have e := od_1_un a7 b7
  exact ⟨b_inj a4 b4 (fun i => (a5 i).trans (b5 i).symm), rfl, rfl, hp_r_un e a8 b8, hp_b_un e a9 b9, e⟩
/-- the own block: tight, with v and the head -/
theorem tb_B (hN : g_N A V) {r v p : Nat} (h1 : g_C A V v r) (h2 : v ≠ r) (h3 : g_H A V r v p) : g_T A (g_B A V v p) ∧ g_B A V v p v ∧ g_B A V v p p ∧ p ≠ v ∧ ∀ c, g_B A V v p c → c < 8 := by
  have hMp := (g_H_M h2 h3).1
  have hpv := (g_H_M h2 h3).2
  exact ⟨g_B_tight hN.1 (Ne.symm hpv) hMp, ⟨g_M_rf h1.1, g_M_sy hN.1 hMp⟩, ⟨hMp, g_M_rf (g_in hMp.1)⟩, hpv, fun c hc => hN.2.2 c (g_B_V hc)⟩
/-- the same block for all its posts but the head -/
theorem tb_same (hN : g_N A V) {r v p u : Nat} (h1 : g_C A V v r) (h2 : v ≠ r) (h3 : g_H A V r v p) (hu : g_B A V v p u) (hup : u ≠ p) : g_C A V u r ∧ u ≠ r ∧ g_H A V r u p ∧ g_B A V u p = g_B A V v p := by
  have s := g_H_same hN.1 h1 h2 h3 hu hup
  have b := tb_B hN h1 h2 h3
  refine ⟨s.2.1, s.1, s.2.2, ?_⟩
  funext w
  exact propext (g_B_eq hN.1 (Ne.symm b.2.2.2.1) (g_H_M h2 h3).1 hup hu b.2.2.1).symm
/-- hops of all posts of an own block, by its order -/
theorem tb_of (hN : g_N A V) {r v p t n u : Nat} {f : Nat → Nat} (h1 : g_C A V v r) (h2 : v ≠ r) (h3 : g_H A V r v p) (hn : n < 256) (hnb : ∀ i, bt (nI n) i = true ↔ g_B A V v p i) (hla : la_t A (g_B A V v p) p t) (ho : od_1 A (g_B A V v p) p t (g_n (g_B A V v p) 8) f) (hu : g_B A V v p u) (hup : u ≠ p) : ∃ rd bl, tb_ok A V r u n p t f rd bl ∧ A u rd ∧ A u bl ∧ rd < 8 ∧ bl < 8 := by
  obtain ⟨s1, s2, s3, s4⟩ := tb_same hN h1 h2 h3 hu hup
  have b := tb_B hN h1 h2 h3
  obtain ⟨i0, i1, i2, i3⟩ := od_at ho.1 hu hup
  have lt8 : ∀ c d, A c d → d < 8 := fun c d k => hN.2.2 d (hN.2.1 c d k).2.1
  obtain ⟨i, _, hr⟩ := hp_r_ex hN.1 (fun a b k => (hN.2.1 a b k).2.2) b.1 ho.1 ho.2.1 hla.1 i1 i2
  rw [i3] at hr
  have har : A u (f i) := by
    obtain ⟨k, _, k2, _, _, k5⟩ := id hr
    rw [k5]; exact k2
  have hb : ∃ bl, hp_b A (g_n (g_B A V v p) 8) f p t u bl ∧ A u bl := by
    rcases hp_b_ex ho.1 ho.2.1 i1 i2 with ⟨_, hb⟩ | ⟨_, k, _, _, hb⟩
    · rw [i3] at hb
      refine ⟨p, hb, ?_⟩
      rcases hb with ⟨b1, _⟩ | ⟨_, k, _, k2, _, k4⟩
      · rw [b1]; exact hN.1 _ _ hla.1
      · rw [k4]; exact k2
    · rw [i3] at hb
      refine ⟨f k, hb, ?_⟩
      rcases hb with ⟨b1, b2⟩ | ⟨_, k', _, k2, _, k4⟩
      · rw [b1, b2]; exact hN.1 _ _ hla.1
      · rw [k4]; exact k2
  obtain ⟨bl, hb, hab⟩ := hb
  refine ⟨f i, bl, ⟨s1, s2, s3, hn, ?_, ?_, ?_, ?_, ?_⟩, har, hab, lt8 _ _ har, lt8 _ _ hab⟩
  · rw [s4]; exact hnb
  · rw [s4]; exact hla
  · rw [s4]; exact ho
  · rw [s4]; exact hr
  · rw [s4]; exact hb
theorem tb_ex (hN : g_N A V) {r v : Nat} (h1 : g_C A V v r) (h2 : v ≠ r) : ∃ n p t f rd bl, tb_ok A V r v n p t f rd bl := by
  obtain ⟨p, h3⟩ := g_H_ex hN.1 hN.2.2 h1 h2
  have b := tb_B hN h1 h2 h3
  obtain ⟨t, hla⟩ := la_ex b.1 b.2.2.1
  obtain ⟨f, ho⟩ := od_ex hN.1 b.1 b.2.2.2.2 b.2.2.1 hla.2.1 (hN.2.1 _ _ hla.1).2.2
  obtain ⟨n, hn, hb⟩ := b_mk (g_B A V v p)
  have hnb : ∀ i, bt (nI n) i = true ↔ g_B A V v p i := fun i => (hb i).trans ⟨fun k => k.2, fun k => ⟨b.2.2.2.2 i k, k⟩⟩
  obtain ⟨rd, bl, k, _⟩ := tb_of hN h1 h2 h3 hn hnb hla ho b.2.1 (Ne.symm b.2.2.2.1)
  exact ⟨n, p, t, f, rd, bl, k⟩
theorem tb_A (hN : g_N A V) {r v n p t rd bl : Nat} {f : Nat → Nat} (h : tb_ok A V r v n p t f rd bl) : A v rd ∧ A v bl := by
  obtain ⟨a1, a2, a3, a4, a5, a6, a7, a8, a9⟩ := h
  refine ⟨?_, ?_⟩
  · obtain ⟨k, _, k2, _, _, k5⟩ := a8
    rw [k5]; exact k2
  · rcases a9 with ⟨b1, b2⟩ | ⟨_, k', _, k2, _, k4⟩
    · rw [b1, b2]; exact hN.1 _ _ a6.1
    · rw [k4]; exact k2
end S1
section S2
variable {σ : Nat → Int32} {P L : Int32} {np : Nat}
theorem n_ok_cg {X X' : Nat → Nat → Int32} {a : Nat} (h : ∀ q, a ≤ q → q ≤ a + 5 → X' q = X q) (ho : n_ok X a σ P L) : n_ok X' a σ P L := by
  obtain ⟨o1, o2, o3, ⟨o4, o5⟩, o6, o7⟩ := ho
  refine ⟨by rw [h a (by omega) (by omega)]; exact o1, by rw [h a (by omega) (by omega)]; exact o2, by rw [h (a + 1) (by omega) (by omega)]; exact o3, ⟨by rw [h (a + 2) (by omega) (by omega)]; exact o4, by rw [h (a + 4) (by omega) (by omega)]; exact o5⟩, ?_, by rw [h (a + 3) (by omega) (by omega)]; exact o7⟩
  intro p hp i
  rw [h (a + 5) (by omega) (by omega)]
  exact o6 p hp i
theorem headFrom_ok (x : mX) (hN : s_N σ np P L) (ho : n_ok x.1 228 σ P L) {r v p : Nat} (hr : r < 8) (hv : v < 8) (h1 : g_C (sA σ L) (bS P) v r) (h2 : v ≠ r) (h3 : g_H (sA σ L) (bS P) r v p) : f_X3_headFrom (nI v) (nI r) x = some (nI p) := by
  have hm := ho.2.2.2.2.1
  have hd := ho.2.2.2.1.2
  unfold f_X3_headFrom
  rw [if_pos (in_ok hv (by decide)), cl (by omega)]
  by_cases c : bt (x.1 233 v) r = true
  · rw [if_neg (h10t (by omega) c)]
    have : p = r := by
      rcases h3 with ⟨_, e⟩ | ⟨k, _⟩
      · exact e
      · exact absurd ((hm v hv r).mp c) k
    rw [this]
  · rw [if_pos (h10f (by omega) c)]
    have hnm : ¬ g_M (sA σ L) (bS P) v r := fun k => c ((hm v hv r).mpr k)
    obtain ⟨p1, p2, p3⟩ : p ≠ v ∧ g_M (sA σ L) (bS P) v p ∧ ¬ g_C (sA σ L) (g_D (bS P) p) v r := by
      rcases h3 with ⟨k, _⟩ | ⟨_, k⟩
      · exact absurd k hnm
      · exact k
    have hp8 : p < 8 := hN.2.1.2.2 p (g_in p2.1)
    refine lp_up p (fun n b (_ : Unit) => f_X3_headFrom_L17 (nI v) (nI r) n b x) (fun _ _ => True) (fun o => o = some (nI p)) ?_ ?_ mF 0 () (Nat.lt_trans hp8 (by decide)) (by omega) trivial
    · intro n _ _
      show f_X3_headFrom_L17 (nI v) (nI r) (n + 1) (nI p) x = _
      rw [f_X3_headFrom_L17, if_neg (k8f hp8), if_neg (fun z => p1 ((nI_eq (by omega) (by omega)).mp z)), if_pos (in_ok hv (by decide)), cl (by omega), if_neg (h10t (by omega) ((hm v hv p).mpr p2)), without_ok (Or.inr (Or.inl rfl)) hp8 hv, Option.bind_some, if_pos (h10f (by omega) (fun z => p3 ((hd p hp8 v hv r).mp z)))]
    · intro n j _ hj _ ih
      show f_X3_headFrom_L17 (nI v) (nI r) (n + 1) (nI j) x = _
      rw [f_X3_headFrom_L17, if_neg (k8f (by omega)), nI_1]
      by_cases c1 : j = v
      · rw [if_pos (by rw [c1])]
        exact ih () trivial
      · rw [if_neg (fun z => c1 ((nI_eq (by omega) (by omega)).mp z)), if_pos (in_ok hv (by decide)), cl (by omega)]
        by_cases c2 : bt (x.1 233 v) j = true
        · rw [if_neg (h10t (by omega) c2), without_ok (Or.inr (Or.inl rfl)) (by omega) hv, Option.bind_some]
          by_cases c3 : bt (x.1 232 (j * 8 + v)) r = true
          · rw [if_neg (h10t (by omega) c3)]
            exact ih () trivial
          · exfalso
            have : p = j := g_H_un hN.2.1.1 h1 h3 (Or.inr ⟨hnm, c1, (hm v hv j).mp c2, fun k => c3 ((hd j (by omega) v hv r).mpr k)⟩)
            omega
        · rw [if_pos (h10f (by omega) c2)]
          exact ih () trivial
theorem cell_ok {r v c : Nat} : f_X7_cell (nI r) (nI v) (nI c) = nI (c * 64 + (r * 8 + v)) := by
  unfold f_X7_cell
  rw [show nI c * (8 : Int32) = nI (c * 8) from pk_mul c 8, nI_add, show nI (c * 8 + r) * (8 : Int32) = nI ((c * 8 + r) * 8) from pk_mul _ 8, nI_add]
  congr 1
  omega
theorem putHop_ok {r v c q : Nat} (hr : r < 8) (hv : v < 8) (hc : c < 2) (hq : q < 8) (x : mX) (hN : s_N σ np P L) (ho : n_ok x.1 228 σ P L) (ha : sA σ L v q) : ∃ l, bt L l = true ∧ sE σ l v q ∧ f_X7_putHop (nI r) (nI v) (nI c) (nI q) x = some (m_xs (m_xs x 238 (c * 64 + (r * 8 + v)) (nI q)) 239 (c * 64 + (r * 8 + v)) (nI l)) := by
  unfold f_X7_putHop
  have ho' : n_ok (m_xs x 238 (c * 64 + (r * 8 + v)) (nI q)).1 228 σ P L := n_ok_cg (fun k h1 h2 => xs_ne (by omega)) ho
  rw [cell_ok, if_pos (in_ok (by omega) (by decide)), cl (by omega), m_let, if_neg (nI_m1 (by omega))]
  rcases linkOf_ok _ hN ho' hv hq with ⟨l, l1, l2, l3, l4⟩ | ⟨l1, _⟩
  · rw [l4, Option.bind_some, if_pos (in_ok (by omega) (by decide)), m_let]
    exact ⟨l, l2, l3, rfl⟩
  · exact absurd ha l1
theorem putHop_0 {r v c : Nat} (hr : r < 8) (hv : v < 8) (hc : c < 2) (x : mX) : f_X7_putHop (nI r) (nI v) (nI c) (-1) x = some (m_xs (m_xs x 238 (c * 64 + (r * 8 + v)) (-1)) 239 (c * 64 + (r * 8 + v)) (-1)) := by
  unfold f_X7_putHop
  rw [cell_ok, if_pos (in_ok (by omega) (by decide)), cl (by omega), m_let, if_pos rfl, if_pos (in_ok (by omega) (by decide)), m_let]
/-- the entries of v by the root r -/
def ct_v (X : Nat → Nat → Int32) (σ : Nat → Int32) (L : Int32) (r v n p rd bl : Nat) : Prop :=
  X 236 (r * 8 + v) = nI p ∧ X 237 (r * 8 + v) = nI n ∧ X 238 (0 * 64 + (r * 8 + v)) = nI rd ∧ X 238 (1 * 64 + (r * 8 + v)) = nI bl ∧
  (∃ l, bt L l = true ∧ sE σ l v rd ∧ X 239 (0 * 64 + (r * 8 + v)) = nI l) ∧ ∃ l, bt L l = true ∧ sE σ l v bl ∧ X 239 (1 * 64 + (r * 8 + v)) = nI l
def ct_0 (X : Nat → Nat → Int32) (r v : Nat) : Prop :=
  X 237 (r * 8 + v) = 0 ∧ X 238 (0 * 64 + (r * 8 + v)) = -1 ∧ X 238 (1 * 64 + (r * 8 + v)) = -1 ∧ X 239 (0 * 64 + (r * 8 + v)) = -1 ∧ X 239 (1 * 64 + (r * 8 + v)) = -1
def ct_g (X : Nat → Nat → Int32) (σ : Nat → Int32) (P L : Int32) (r v : Nat) : Prop := ∃ n p t f rd bl, tb_ok (sA σ L) (bS P) r v n p t f rd bl ∧ ct_v X σ L r v n p rd bl
/-- a root's entries are right -/
def ct_r (X : Nat → Nat → Int32) (σ : Nat → Int32) (P L : Int32) (r : Nat) : Prop := ∀ v, v < 8 → ct_g X σ P L r v ∨ (¬ (g_C (sA σ L) (bS P) v r ∧ v ≠ r) ∧ ct_0 X r v)
/-- cells of a root's entries -/
def ct_W (r q c : Nat) : Prop := ((q = 236 ∨ q = 237) ∧ r * 8 ≤ c ∧ c < r * 8 + 8) ∨ ((q = 238 ∨ q = 239) ∧ ((r * 8 ≤ c ∧ c < r * 8 + 8) ∨ (64 + r * 8 ≤ c ∧ c < 64 + r * 8 + 8)))
/-- the entries of v are the same -/
def ct_e (X X' : Nat → Nat → Int32) (r v : Nat) : Prop := X' 236 (r * 8 + v) = X 236 (r * 8 + v) ∧ X' 237 (r * 8 + v) = X 237 (r * 8 + v) ∧ X' 238 (0 * 64 + (r * 8 + v)) = X 238 (0 * 64 + (r * 8 + v)) ∧ X' 238 (1 * 64 + (r * 8 + v)) = X 238 (1 * 64 + (r * 8 + v)) ∧ X' 239 (0 * 64 + (r * 8 + v)) = X 239 (0 * 64 + (r * 8 + v)) ∧ X' 239 (1 * 64 + (r * 8 + v)) = X 239 (1 * 64 + (r * 8 + v))
theorem ct_e_v {X X' : Nat → Nat → Int32} {r v n p rd bl : Nat} (h : ct_e X X' r v) (k : ct_v X σ L r v n p rd bl) : ct_v X' σ L r v n p rd bl := by
  obtain ⟨e1, e2, e3, e4, e5, e6⟩ := h
  unfold ct_v
  rw [e1, e2, e3, e4, e5, e6]
  exact k
theorem ct_e_0 {X X' : Nat → Nat → Int32} {r v : Nat} (h : ct_e X X' r v) (k : ct_0 X r v) : ct_0 X' r v := by
  obtain ⟨e1, e2, e3, e4, e5, e6⟩ := h
  unfold ct_0
  rw [e2, e3, e4, e5, e6]
  exact k
theorem ct_e_g {X X' : Nat → Nat → Int32} {r v : Nat} (h : ct_e X X' r v) (k : ct_g X σ P L r v) : ct_g X' σ P L r v := by
  obtain ⟨n, p, t, f, rd, bl, k1, k2⟩ := k
  exact ⟨n, p, t, f, rd, bl, k1, ct_e_v h k2⟩
theorem ct_e_rf (X : Nat → Nat → Int32) (r v : Nat) : ct_e X X r v := ⟨rfl, rfl, rfl, rfl, rfl, rfl⟩
theorem ct_e_tr {X X' X'' : Nat → Nat → Int32} {r v : Nat} (h : ct_e X X' r v) (k : ct_e X' X'' r v) : ct_e X X'' r v :=
  ⟨k.1.trans h.1, k.2.1.trans h.2.1, k.2.2.1.trans h.2.2.1, k.2.2.2.1.trans h.2.2.2.1, k.2.2.2.2.1.trans h.2.2.2.2.1, k.2.2.2.2.2.trans h.2.2.2.2.2⟩
/-- writing all entries of u -/
theorem ct_put (x : mX) (r u : Nat) (a b c d e f : Int32) : ct_e x.1 x.1 r u ∧ ∀ x', x' = m_xs (m_xs (m_xs (m_xs (m_xs (m_xs x 236 (r * 8 + u) a) 237 (r * 8 + u) b) 238 (0 * 64 + (r * 8 + u)) c) 239 (0 * 64 + (r * 8 + u)) d) 238 (1 * 64 + (r * 8 + u)) e) 239 (1 * 64 + (r * 8 + u)) f → (x'.1 236 (r * 8 + u) = a ∧ x'.1 237 (r * 8 + u) = b ∧ x'.1 238 (0 * 64 + (r * 8 + u)) = c ∧ x'.1 238 (1 * 64 + (r * 8 + u)) = e ∧ x'.1 239 (0 * 64 + (r * 8 + u)) = d ∧ x'.1 239 (1 * 64 + (r * 8 + u)) = f) ∧ (∀ v, v < 8 → u < 8 → r < 8 → v ≠ u → ct_e x.1 x'.1 r v) ∧ (u < 8 → xF (ct_W r) x x') := by
  refine ⟨ct_e_rf _ _ _, ?_⟩
  rintro x' rfl
  refine ⟨⟨?_, ?_, ?_, ?_, ?_, ?_⟩, fun v hv hu hr hne => ⟨?_, ?_, ?_, ?_, ?_, ?_⟩, fun hu => ?_⟩
  · rw [xs_ne (by decide), xs_ne (by decide), xs_ne (by decide), xs_ne (by decide), xs_ne (by decide), xs_eq]
  · rw [xs_ne (by decide), xs_ne (by decide), xs_ne (by decide), xs_ne (by decide), xs_eq]
  · rw [xs_ne (by decide), xs_ec (by omega), xs_ne (by decide), xs_eq]
  · rw [xs_ne (by decide), xs_eq]
  · rw [xs_ec (by omega), xs_ne (by decide), xs_eq]
  · rw [xs_eq]
  · rw [xs_ne (by decide), xs_ne (by decide), xs_ne (by decide), xs_ne (by decide), xs_ne (by decide), xs_ec (by omega)]
  · rw [xs_ne (by decide), xs_ne (by decide), xs_ne (by decide), xs_ne (by decide), xs_ec (by omega), xs_ne (by decide)]
  · rw [xs_ne (by decide), xs_ec (by omega), xs_ne (by decide), xs_ec (by omega), xs_ne (by decide), xs_ne (by decide)]
  · rw [xs_ne (by decide), xs_ec (by omega), xs_ne (by decide), xs_ec (by omega), xs_ne (by decide), xs_ne (by decide)]
  · rw [xs_ec (by omega), xs_ne (by decide), xs_ec (by omega), xs_ne (by decide), xs_ne (by decide), xs_ne (by decide)]
  · rw [xs_ec (by omega), xs_ne (by decide), xs_ec (by omega), xs_ne (by decide), xs_ne (by decide), xs_ne (by decide)]
  · refine xF_set (xF_set (xF_set (xF_set (xF_set (xF_set (xF_rf _ _) ?_) ?_) ?_) ?_) ?_) ?_
    · exact Or.inl ⟨Or.inl rfl, by omega, by omega⟩
    · exact Or.inl ⟨Or.inr rfl, by omega, by omega⟩
    · exact Or.inr ⟨Or.inl rfl, Or.inl ⟨by omega, by omega⟩⟩
    · exact Or.inr ⟨Or.inr rfl, Or.inl ⟨by omega, by omega⟩⟩
    · exact Or.inr ⟨Or.inl rfl, Or.inr ⟨by omega, by omega⟩⟩
    · exact Or.inr ⟨Or.inr rfl, Or.inr ⟨by omega, by omega⟩⟩
theorem ct_W_row {r q c : Nat} (h : ct_W r q c) : 236 ≤ q := by
  rcases h with ⟨h, _⟩ | ⟨h, _⟩ <;> omega
/-- cells that settle writes -/
def st_W (r q c : Nat) : Prop := ar_W q c ∨ ct_W r q c
theorem st_W_row {r q c : Nat} (h : st_W r q c) : 235 ≤ q ∨ (q = 234 ∧ c = 0) := by
  rcases h with h | h
  · rcases h with h | h <;> omega
  · have := ct_W_row h; omega
theorem n_ok_F {x x' : mX} {W : Nat → Nat → Prop} (h : xF W x x') (hW : ∀ q c, 228 ≤ q → q ≤ 233 → ¬ W q c) (ho : n_ok x.1 228 σ P L) : n_ok x'.1 228 σ P L := n_ok_cg (fun q h1 h2 => xF_row h (fun c => hW q c h1 (by omega))) ho
theorem settle_ok (x : mX) (hN : s_N σ np P L) (ho : n_ok x.1 228 σ P L) {r v p : Nat} (hr : r < 8) (hv : v < 8) (h1 : g_C (sA σ L) (bS P) v r) (h2 : v ≠ r) (h3 : g_H (sA σ L) (bS P) r v p) : ∃ x', f_X7_settle (nI r) (nI v) x = some x' ∧ xF (st_W r) x x' ∧ ∀ u, u < 8 → (g_B (sA σ L) (bS P) v p u ∧ u ≠ p ∧ ct_g x'.1 σ P L r u) ∨ (¬ (g_B (sA σ L) (bS P) v p u ∧ u ≠ p) ∧ ct_e x.1 x'.1 r u) := by
  have hG := hN.2.1
  have b := tb_B hG h1 h2 h3
  have hp8 : p < 8 := b.2.2.2.2 p b.2.2.1
  unfold f_X7_settle
  rw [headFrom_ok x hN ho hr hv h1 h2 h3, Option.bind_some, if_neg (nI_m1 (by omega))]
  obtain ⟨O, o1, o2⟩ := blockOf_ok (A := sA σ L) (V := bS P) x ho.2.2.2.2.1 hv hp8
  obtain ⟨n, hn, rfl⟩ := b8_num (s := O) (fun i hi => b.2.2.2.2 i ((o2 i).mp hi))
  rw [o1, Option.bind_some]
  obtain ⟨t, hla⟩ := la_ex b.1 b.2.2.1
  obtain ⟨x3, a1, a2, f, a3, a4⟩ := arrange_ok (A := sA σ L) (V := bS P) x hG ho.2.2.1 o2 b.2.2.2.2 b.1 b.2.2.1 hla
  rw [a1, Option.bind_some]
  have hm8 := g_n_bound (P := g_B (sA σ L) (bS P) v p) 8
  have hf8 : ∀ i, i < g_n (g_B (sA σ L) (bS P) v p) 8 → f i < 8 := fun i hi => b.2.2.2.2 _ (a3.1.2.2.2.1 i hi)
  have ht8 : t < 8 := b.2.2.2.2 t hla.2.1
  refine lp_ok 8 (fun n' b s => f_X7_settle_L36 (nI r) (nI p) (nI n) n' b s) (fun j s => xF (ct_W r) x3 s ∧ ∀ u, u < 8 → (u < j ∧ g_B (sA σ L) (bS P) v p u ∧ u ≠ p ∧ ct_g s.1 σ P L r u) ∨ (¬ (u < j ∧ g_B (sA σ L) (bS P) v p u ∧ u ≠ p) ∧ ct_e x.1 s.1 r u)) ?_ ?_ mF 0 x3 (by decide) (by decide) ⟨xF_rf _ _, fun u hu => Or.inr ⟨fun z => by omega, ?_⟩⟩
  · intro n' s hI
    show ∃ x', f_X7_settle_L36 (nI r) (nI p) (nI n) (n' + 1) (nI 8) s = some x' ∧ _
    rw [f_X7_settle_L36, if_pos (by decide)]
    refine ⟨s, rfl, xF_tr (xF_mo a2 (fun _ _ h => Or.inl h)) (xF_mo hI.1 (fun _ _ h => Or.inr h)), fun u hu => ?_⟩
    rcases hI.2 u hu with ⟨_, k⟩ | ⟨k1, k2⟩
    · exact Or.inl k
    · exact Or.inr ⟨fun z => k1 ⟨hu, z⟩, k2⟩
  · intro n' j s hj hI ih
    show ∃ x', f_X7_settle_L36 (nI r) (nI p) (nI n) (n' + 1) (nI j) s = some x' ∧ _
    rw [f_X7_settle_L36, if_neg (k8f hj), nI_1]
    have skip : ¬ (g_B (sA σ L) (bS P) v p j ∧ j ≠ p) → ∃ x', f_X7_settle_L36 (nI r) (nI p) (nI n) n' (nI (j + 1)) s = some x' ∧ xF (st_W r) x x' ∧ ∀ u, u < 8 → (g_B (sA σ L) (bS P) v p u ∧ u ≠ p ∧ ct_g x'.1 σ P L r u) ∨ (¬ (g_B (sA σ L) (bS P) v p u ∧ u ≠ p) ∧ ct_e x.1 x'.1 r u) := by
      intro hno
      refine ih s ⟨hI.1, fun u hu => ?_⟩
      rcases hI.2 u hu with ⟨k0, k⟩ | ⟨k1, k2⟩
      · exact Or.inl ⟨by omega, k⟩
      · refine Or.inr ⟨fun z => ?_, k2⟩
        by_cases e : u = j
        · exact hno (e ▸ z.2)
        · exact k1 ⟨by omega, z.2⟩
    by_cases c1 : j = p
    · rw [if_pos (by rw [c1])]
      exact skip (fun z => z.2 c1)
    · rw [if_neg (fun z => c1 ((nI_eq (by omega) (by omega)).mp z))]
      by_cases c2 : bt (nI n) j = true
      · have hBj := (o2 j).mp c2
        obtain ⟨rd, bl, tb, ar, ab, rd8, bl8⟩ := tb_of hG h1 h2 h3 hn o2 hla a3 hBj c1
        rw [if_neg (h10t (by omega) c2), show nI r * (8 : Int32) = nI (r * 8) from pk_mul r 8, nI_add, if_pos (in_ok (by omega) (by decide)), cl (by omega), m_let, if_pos (in_ok (by omega) (by decide)), m_let]
        have F5 : xF (fun q c => q = 236 ∨ q = 237) s (m_xs (m_xs s 236 (r * 8 + j) (nI p)) 237 (r * 8 + j) (nI n)) := xF_set (xF_set (xF_rf _ _) (Or.inl rfl)) (Or.inr rfl)
        have hos : n_ok s.1 228 σ P L := n_ok_F (xF_tr (xF_mo a2 (fun _ _ h => Or.inl h)) (xF_mo hI.1 (fun _ _ h => Or.inr h))) (fun q c h1 h2 (h : st_W r q c) => by have := st_W_row h; omega) ho
        have ho5 := n_ok_F F5 (fun q c h1 h2 h => by omega) hos
        have rowR : ∀ s' : mX, s'.1 234 = s.1 234 → s'.1 235 = s.1 235 → ar_R s' (g_n (g_B (sA σ L) (bS P) v p) 8) f := fun s' e1 e2 => by
          have q1 := xF_row hI.1 (q := 234) (fun c h => by have := ct_W_row h; omega)
          have q2 := xF_row hI.1 (q := 235) (fun c h => by have := ct_W_row h; omega)
          exact ⟨by rw [e1, q1]; exact a4.1, fun i hi => by rw [e2, q2]; exact a4.2 i hi⟩
        have hpr : hp_r (sA σ L) (g_n (g_B (sA σ L) (bS P) v p) 8) f t j rd := by
          have k := tb.2.2.2.2.2.2.2.1
          rw [(tb_same hG h1 h2 h3 hBj c1).2.2.2] at k
          exact k
        have hpb : hp_b (sA σ L) (g_n (g_B (sA σ L) (bS P) v p) 8) f p t j bl := by
          have k := tb.2.2.2.2.2.2.2.2
          rw [(tb_same hG h1 h2 h3 hBj c1).2.2.2] at k
          exact k
        rw [redHop_ok ho5.2.2.1 (rowR _ (by rw [xs_ne (by decide), xs_ne (by decide)]) (by rw [xs_ne (by decide), xs_ne (by decide)])) hm8 hf8 hj a3.1.2.2.1 ht8 a3.1.1 hpr, Option.bind_some]
        obtain ⟨l, l1, l2, l3⟩ := putHop_ok (c := 0) hr hj (by decide) rd8 _ hN ho5 ar
        rw [show (0 : Int32) = nI 0 from rfl, l3, Option.bind_some]
        have F7 := xF_set (q := 239) (c := 0 * 64 + (r * 8 + j)) (v := nI l) (xF_set (q := 238) (c := 0 * 64 + (r * 8 + j)) (v := nI rd) (xF_rf (fun q c => q = 238 ∨ q = 239) (m_xs (m_xs s 236 (r * 8 + j) (nI p)) 237 (r * 8 + j) (nI n))) (Or.inl rfl)) (Or.inr rfl)
        have ho7 := n_ok_F F7 (fun q c h1 h2 h => by omega) ho5
        rw [blueHop_ok ho7.2.2.1 (rowR _ (by rw [xs_ne (by decide), xs_ne (by decide), xs_ne (by decide), xs_ne (by decide)]) (by rw [xs_ne (by decide), xs_ne (by decide), xs_ne (by decide), xs_ne (by decide)])) hm8 hf8 hj a3.1.2.1 a3.1.2.2.1 ht8 a3.1.1 hpb, Option.bind_some]
        obtain ⟨k, k1, k2, k3⟩ := putHop_ok (c := 1) hr hj (by decide) bl8 _ hN ho7 ab
        rw [show (1 : Int32) = nI 1 from rfl, k3, Option.bind_some]
        obtain ⟨pe, pu, pF⟩ := (ct_put s r j (nI p) (nI n) (nI rd) (nI l) (nI bl) (nI k)).2 _ rfl
        refine ih _ ⟨xF_tr hI.1 (pF hj), fun u hu => ?_⟩
        by_cases e : u = j
        · subst e
          exact Or.inl ⟨by omega, hBj, c1, n, p, t, f, rd, bl, tb, pe.1, pe.2.1, pe.2.2.1, pe.2.2.2.1, ⟨l, l1, l2, pe.2.2.2.2.1⟩, k, k1, k2, pe.2.2.2.2.2⟩
        · have eu := pu u hu hj hr e
          rcases hI.2 u hu with ⟨k0, k1, k2, k3⟩ | ⟨k1, k2⟩
          · exact Or.inl ⟨by omega, k1, k2, ct_e_g eu k3⟩
          · exact Or.inr ⟨fun z => k1 ⟨by omega, z.2⟩, ct_e_tr k2 eu⟩
      · rw [if_pos (h10f (by omega) c2)]
        exact skip (fun z => c2 ((o2 j).mpr z.1))
  · have q : ∀ q, 236 ≤ q → x3.1 q = x.1 q := fun q hq => xF_row a2 (fun c h => by rcases h with h | h <;> omega)
    exact ⟨by rw [q 236 (by omega)], by rw [q 237 (by omega)], by rw [q 238 (by omega)], by rw [q 238 (by omega)], by rw [q 239 (by omega)], by rw [q 239 (by omega)]⟩
end S2
