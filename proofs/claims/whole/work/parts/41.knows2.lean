/-! ===== knowsOne, knows ===== -/
section K2
variable {A : Nat → Nat → Prop} {P : Int32}
theorem ko_W_row {k q c : Nat} (h : ko_W k q c) : 296 ≤ q ∧ q ≤ 301 := by
  rcases h with ⟨z, _⟩ | ⟨z, _⟩ <;> omega
theorem knowsOne_3 {k n p : Nat} (hk : k < 64) (y : mY) {Q : Option mY → Prop} (k1 : Int32 → Option mY) (k2 : Option mY) (h1 : ∀ e, e < k → y.1 296 e = nI n → y.1 297 e = nI p → Q (k1 (nI e))) (h2 : Q k2) : Q (f_X11_knowsOne_L183 (nI k) (nI n) (nI p) mF 0 y k1 k2) := by
  refine lp_up k (fun n' b (_ : Unit) => f_X11_knowsOne_L183 (nI k) (nI n) (nI p) n' b y k1 k2) (fun _ _ => True) Q ?_ ?_ mF 0 () (Nat.lt_trans hk (by decide)) (by omega) trivial
  · intro n' _ _
    show Q (f_X11_knowsOne_L183 (nI k) (nI n) (nI p) (n' + 1) (nI k) y k1 k2)
    rw [f_X11_knowsOne_L183, if_pos ((nI_leI (by omega) (by omega)).mpr (Nat.le_refl _))]
    exact h2
  · intro n' j _ hj _ ih
    show Q (f_X11_knowsOne_L183 (nI k) (nI n) (nI p) (n' + 1) (nI j) y k1 k2)
    rw [f_X11_knowsOne_L183, if_neg (fun z => absurd ((nI_leI (by omega) (by omega)).mp z) (by omega)), if_pos (in_ok (by omega) (by decide)), cl (by omega), nI_1]
    by_cases c1 : y.1 296 j = nI n
    · rw [if_pos c1, if_pos (in_ok (by omega) (by decide))]
      by_cases c2 : y.1 297 j = nI p
      · rw [if_pos c2]
        exact h1 j hj c1 c2
      · rw [if_neg c2]
        exact ih () trivial
    · rw [if_neg c1]
      exact ih () trivial
theorem knowsOne_4 {k e : Nat} (hk : k < 64) (he : e < k) (v : Int32) (y : mY) {Q : Option mY → Prop} (hq : ∀ y', yF (od_W k) y y' → (∀ i, i < 8 → y'.1 299 (8 * k + i) = y.1 299 (8 * e + i)) → Q (f_X11_knowsHops (nI k) v y')) : Q (f_X11_knowsOne_L219 (nI k) v (nI e) mF 0 y) := by
  refine lp_up 8 (fun n' b s => f_X11_knowsOne_L219 (nI k) v (nI e) n' b s) (fun j s => yF (od_W k) y s ∧ ∀ i, i < j → s.1 299 (8 * k + i) = y.1 299 (8 * e + i)) Q ?_ ?_ mF 0 y (by decide) (by decide) ⟨yF_rf _ _, fun i hi => by omega⟩
  · intro n' s hI
    show Q (f_X11_knowsOne_L219 (nI k) v (nI e) (n' + 1) (nI 8) s)
    rw [f_X11_knowsOne_L219, if_pos (by decide)]
    have := hq s hI.1 hI.2
    cases h : f_X11_knowsHops (nI k) v s with
    | none => rw [h] at this; exact this
    | some z => rw [h] at this; exact this
  · intro n' j s hj hI ih
    show Q (f_X11_knowsOne_L219 (nI k) v (nI e) (n' + 1) (nI j) s)
    rw [f_X11_knowsOne_L219, if_neg (k8f hj), show (8 : Int32) * nI k = nI (8 * k) from pk_mul 8 k, show (8 : Int32) * nI e = nI (8 * e) from pk_mul 8 e, nI_add, nI_add, if_pos (in_ok (by omega) (by decide)), if_pos (in_ok (by omega) (by decide)), cl (by omega), cl (by omega), m_let, nI_1]
    refine ih _ ⟨yF_set hI.1 ⟨rfl, by omega, by omega⟩, fun i hi => ?_⟩
    rw [ys_at]
    by_cases e2 : i = j
    · rw [if_pos (by omega), e2, hI.1.1 299 (8 * e + j) (fun z => by have := z.2; omega)]
    · rw [if_neg (by omega)]
      exact hI.2 i (by omega)
theorem knowsOne_ok (hN : g_N A (bS P)) (h8 : b8 P) {r v k : Nat} (hr : r < 8) (hv : v < 8) (hk : k = 8 * r + v) (h1 : g_C A (bS P) v r) (h2 : v ≠ r) (y : mY) (hE : nA (fun p => y.1 293 (8 * 1 + p)) = A) (hbl : bl_R y.1 A (bS P)) (h0 : y.1 296 k = 0) (hprev : ∀ e, e < k → ky_e y.1 A (bS P) e) : ∃ y', f_X11_knowsOne (nI k) (nI r) (nI v) P y = some y' ∧ yF (ko_W k) y y' ∧ ky_g y'.1 A (bS P) k := by
  have hk64 : k < 64 := by omega
  have ekr : k / 8 = r := by omega
  have ekv : k % 8 = v := by omega
  obtain ⟨p, h3⟩ := g_H_ex hN.1 hN.2.2 h1 h2
  have b := tb_B hN h1 h2 h3
  have hp8 := b.2.2.2.2 p b.2.2.1
  obtain ⟨n, hn, hb⟩ := b_mk (g_B A (bS P) v p)
  have hnb : ∀ i, bt (nI n) i = true ↔ g_B A (bS P) v p i := fun i => (hb i).trans ⟨fun k => k.2, fun k => ⟨b.2.2.2.2 i k, k⟩⟩
  obtain ⟨t, hla⟩ := la_ex b.1 b.2.2.1
  have ht8 := b.2.2.2.2 t hla.2.1
  have hpt : p ≠ t := (hN.2.1 _ _ hla.1).2.2
  unfold f_X11_knowsOne
  obtain ⟨S, e, hS⟩ := comes_ok (w := 1) (by decide) (W := P &&& (((1 : Int32) <<< (nI v &&& 31)) ^^^ (-1 : Int32))) (b8_andl h8) y hr ((bS_wo (by omega) r).mpr ⟨g_in h1, Ne.symm h2⟩)
  rw [hE, bS_woE (by omega)] at hS
  rw [show f_X11_comes (1 : Int32) = f_X11_comes (nI 1) from rfl, e, Option.bind_some]
  refine knowsOne_1 (Q := fun o => ∃ y', o = some y' ∧ yF (ko_W k) y y' ∧ ky_g y'.1 A (bS P) k) hN hk64 hv h1 h2 h3 hn hnb hS y hbl h0 _ ?_
  intro y3 F3 e3
  rw [if_pos (in_ok hk64 (by decide)), m_jn, cl (by omega), e3]
  have F3' : yF (ko_W k) y y3 := yF_mo F3 (fun q c z => Or.inl ⟨Or.inl z.1, z.2⟩)
  have cont : ∃ y', (if m_in (nI k) 64 = true then (m_let (m_ys y3 297 k (nI p)) fun y6 => (if m_in ((8 : Int32) + nI p) 24 = true then ((f_X11_lowestOf ((y6.1 293 ((8 : Int32) + nI p).toNatClampNeg) &&& (nI n))).bind fun q7 => (if m_in (nI k) 64 = true then (m_let (m_ys y6 298 k q7) fun y8 => (f_X11_knowsOne_L183 (nI k) (nI n) (nI p) mF (0 : Int32) y8 (fun v9 => (f_X11_knowsOne_L219 (nI k) (nI v) v9 mF (0 : Int32) y8)) ((f_X11_laysOrder (nI k) y8).bind fun q12 => ((f_X11_knowsHops (nI k) (nI v) q12).bind fun q13 => (some q13))))) else none)) else none)) else none) = some y' ∧ yF (ko_W k) y y' ∧ ky_g y'.1 A (bS P) k := by
    rw [if_pos (in_ok hk64 (by decide)), m_let, a8, if_pos (in_ok (by omega) (by decide)), cl (by omega)]
    have hA8 : ∀ q, q < 8 → (A p q ↔ bt ((m_ys y3 297 k (nI p)).1 293 (8 + p)) q = true) := fun q hq => by
      rw [ys_ne (by decide), yF_row F3 (q := 293) (fun c z => by omega), ← hE]
      exact ⟨fun z => z.2.2, fun z => ⟨hp8, hq, z⟩⟩
    rw [lowestOf_at (m := t) (by omega) (by rw [b_and, (hA8 t ht8).mp hla.1, (hnb t).mpr hla.2.1]; rfl) (fun i hi hbi => by
      rw [b_and, Bool.and_eq_true] at hbi
      exact hla.2.2 i hi ((hA8 i (by omega)).mpr hbi.1) ((hnb i).mp hbi.2)), Option.bind_some, if_pos (in_ok hk64 (by decide)), m_let]
    have F8 : yF (ko_W k) y (m_ys (m_ys y3 297 k (nI p)) 298 k (nI t)) := yF_set (yF_set F3' (Or.inl ⟨Or.inr (Or.inl rfl), rfl⟩)) (Or.inl ⟨Or.inr (Or.inr (Or.inl rfl)), rfl⟩)
    have c296 : (m_ys (m_ys y3 297 k (nI p)) 298 k (nI t)).1 296 k = nI n := by rw [ys_ne (by decide), ys_ne (by decide)]; exact e3
    have c297 : (m_ys (m_ys y3 297 k (nI p)) 298 k (nI t)).1 297 k = nI p := by rw [ys_ne (by decide), ys_eq]
    have c298 : (m_ys (m_ys y3 297 k (nI p)) 298 k (nI t)).1 298 k = nI t := by rw [ys_eq]
    have hE8 : nA (fun q => (m_ys (m_ys y3 297 k (nI p)) 298 k (nI t)).1 293 (8 * 1 + q)) = A := by
      rw [yF_row F8 (q := 293) (fun c z => by have := ko_W_row z; omega)]; exact hE
    have fin : ∀ (f : Nat → Nat) (y9 : mY), yF (od_W k) (m_ys (m_ys y3 297 k (nI p)) 298 k (nI t)) y9 → od_1 A (g_B A (bS P) v p) p t (g_n (g_B A (bS P) v p) 8) f → rr_R y9 k (g_n (g_B A (bS P) v p) 8) f → ∃ y', f_X11_knowsHops (nI k) (nI v) y9 = some y' ∧ yF (ko_W k) y y' ∧ ky_g y'.1 A (bS P) k := by
      intro f y9 F9 ho hR
      obtain ⟨rd, bl, tb, _⟩ := tb_of hN h1 h2 h3 hn hnb hla ho b.2.1 (Ne.symm b.2.2.2.1)
      have q296 : y9.1 296 k = nI n := (F9.1 296 k (od_W_row (by decide))).trans c296
      have q297 : y9.1 297 k = nI p := (F9.1 297 k (od_W_row (by decide))).trans c297
      have q298 : y9.1 298 k = nI t := (F9.1 298 k (od_W_row (by decide))).trans c298
      have hE9 : nA (fun q => y9.1 293 (8 * 1 + q)) = A := by rw [yF_row F9 (q := 293) (fun c => od_W_row (by decide))]; exact hE8
      obtain ⟨y', a1, a2, a3, a4⟩ := knowsHops_ok hk64 hv b.2.2.2.2 hE9 q296 q297 q298 hnb hn ho.1 hR tb.2.2.2.2.2.2.2.1 tb.2.2.2.2.2.2.2.2
      refine ⟨y', a1, yF_tr (yF_tr F8 (yF_mo F9 (fun q c z => Or.inr z))) (yF_mo a2 (fun q c z => Or.inl ⟨by rcases z.1 with z | z <;> omega, z.2⟩)), n, p, t, f, rd, bl, by rw [ekr, ekv]; exact tb, ?_, ?_, ?_, ?_, a3, a4⟩
      · exact (a2.1 296 k (fun z => by rcases z.1 with z | z <;> omega)).trans q296
      · exact (a2.1 297 k (fun z => by rcases z.1 with z | z <;> omega)).trans q297
      · exact (a2.1 298 k (fun z => by rcases z.1 with z | z <;> omega)).trans q298
      · rw [ekv]
        intro i hi
        exact (a2.1 299 _ (fun z => by rcases z.1 with z | z <;> omega)).trans (hR i hi)
    refine knowsOne_3 (Q := fun o => ∃ y', o = some y' ∧ yF (ko_W k) y y' ∧ ky_g y'.1 A (bS P) k) hk64 _ _ _ ?_ ?_
    · intro e he q1 q2
      have ee := ky_e_F F8 (Nat.ne_of_lt he) (hprev e he)
      rcases ee with ⟨n', p', t', f', rd', bl', tb', t1, t2, t3, t4, _⟩ | ⟨_, z⟩
      · have en : n' = n := (nI_eq (by have := tb'.2.2.2.1; omega) (by omega)).mp (t1.symm.trans q1)
        have bb := tb_B hN tb'.1 tb'.2.1 tb'.2.2.1
        have ep : p' = p := (nI_eq (by have := bb.2.2.2.2 p' bb.2.2.1; omega) (by omega)).mp (t2.symm.trans q2)
        subst en
        subst ep
        have eB : g_B A (bS P) (e % 8) p' = g_B A (bS P) v p' := funext fun i => propext ((tb'.2.2.2.2.1 i).symm.trans (hnb i))
        have hla' := tb'.2.2.2.2.2.1
        have ho' := tb'.2.2.2.2.2.2.1
        rw [eB] at hla' ho' t4
        have et := la_un hla' hla
        subst et
        refine knowsOne_4 (Q := fun o => ∃ y', o = some y' ∧ yF (ko_W k) y y' ∧ ky_g y'.1 A (bS P) k) hk64 he _ _ ?_
        intro y9 F9 c9
        refine fin f' y9 F9 ho' (fun i hi => ?_)
        have := g_n_bound (P := g_B A (bS P) v p') 8
        rw [c9 i (by omega)]
        exact t4 i hi
      · exfalso
        have hn0 : n ≠ 0 := fun e0 => by
          have := (hnb v).mpr b.2.1
          rw [e0, nI_0, b_0] at this
          cases this
        exact nI_ne0 (by omega) (by omega) (q1.symm.trans z)
    · obtain ⟨y9, a1, a2, f, a3, a4⟩ := laysOrder_ok hk64 hN.1 b.1 b.2.2.2.2 b.2.2.1 hla.2.1 hpt hE8 c296 c297 c298 hnb hn
      rw [a1, Option.bind_some]
      obtain ⟨y', k1, k2, k3⟩ := fin f y9 a2 a3 a4
      rw [k1, Option.bind_some]
      exact ⟨y', rfl, k2, k3⟩
  by_cases cr : bt (nI n) r = true
  · rw [if_neg (h11t (by omega) cr)]
    have hBr := (hnb r).mp cr
    have epr : p = r := by
      rcases h3 with ⟨_, e⟩ | ⟨k, _⟩
      · exact e
      · exact absurd hBr.1 k
    rw [← epr]
    exact cont
  · rw [if_pos (h11f (by omega) cr)]
    have hE3 : nA (fun q => y3.1 293 (8 * 1 + q)) = A := by rw [yF_row F3 (q := 293) (fun c z => by omega)]; exact hE
    exact knowsOne_2 (Q := fun o => ∃ y', o = some y' ∧ yF (ko_W k) y y' ∧ ky_g y'.1 A (bS P) k) hN h8 hr h1 h2 h3 hnb y3 hE3 (fun z => cr ((hnb r).mpr z)) _ cont
end K2
/-- the cells that knows writes -/
def kn_W (q c : Nat) : Prop := (q = 279 ∧ (c = 30 ∨ c = 34)) ∨ (293 ≤ q ∧ q ≤ 301)
/-- the reference's tables are right -/
def k_ok (Y : Nat → Nat → Int32) : Prop := ∀ e, e < 64 → ky_e Y (sA (Y 289) (Y 289 3)) (bS (Y 289 2)) e
theorem knows_ok {np : Nat} (y : mY) (hW : sW (y.1 289) np) (hk : y.1 279 30 ≠ 0 → k_ok y.1) : ∃ y', f_X11_knows y = some y' ∧ yF kn_W y y' ∧ k_ok y'.1 ∧ y'.1 279 30 ≠ 0 := by
  unfold f_X11_knows
  by_cases c : y.1 279 30 = 0
  · rw [if_pos c, m_let]
    have eσ : (m_ys y 279 30 1).1 289 = y.1 289 := ys_ne (by decide)
    obtain ⟨L, y2, l1, l2, l3, l4⟩ := laysNet_ok (np := np) (w := 1) (by decide) (m_ys y 279 30 1) (by rw [eσ]; exact hW)
    rw [eσ] at l1 l2 l4
    have hL : L = y.1 289 3 := by
      rcases l1 with ⟨z, _⟩ | ⟨_, z⟩
      · omega
      · exact z
    subst hL
    have hN := sN_learnt hW
    rw [show f_X11_laysNet (1 : Int32) = f_X11_laysNet (nI 1) from rfl, l2, Option.bind_some]
    have eP : nt_P (y.1 289) 1 = y.1 289 2 := by unfold nt_P; rw [if_neg (by decide)]
    rw [eP]
    obtain ⟨y3, b1, b2, b3, b4⟩ := laysBlocks_ok (w := 1) (by decide) hN.2.2.2 y2 hN.2.1 l4
    rw [show f_X11_laysBlocks (1 : Int32) = f_X11_laysBlocks (nI 1) from rfl, b1, Option.bind_some]
    have F2 : yF kn_W y y2 := yF_tr (yF_set (yF_rf _ _) (Or.inl ⟨rfl, Or.inl rfl⟩)) (yF_mo (yF_R l3) (fun q c z => Or.inr ⟨by omega, by omega⟩))
    have F3 : yF kn_W y y3 := yF_tr F2 (yF_mo b2 (fun q c z => by
      rcases z with z | z | z
      · exact Or.inr ⟨by omega, by omega⟩
      · exact Or.inr ⟨by omega, by omega⟩
      · exact Or.inl ⟨z.1, Or.inr z.2⟩))
    have hE3 : nA (fun p => y3.1 293 (8 * 1 + p)) = sA (y.1 289) (y.1 289 3) := by
      rw [yF_row b2 (q := 293) (fun c z => by rcases z with z | z | z <;> omega)]; exact l4
    have e30 : y3.1 279 30 = 1 := by
      rw [b2.1 279 30 (fun z => by rcases z with z | z | z <;> omega), l3.1 279 (by decide), ys_eq]
    have hbl : bl_R y3.1 (sA (y.1 289) (y.1 289 3)) (bS (y.1 289 2)) := ⟨b3, b4⟩
    have key := lp_ok 64 (fun n b s => f_X11_knows_L27 (y.1 289 2) n b s) (fun j s => yF (fun q c => 296 ≤ q ∧ q ≤ 301) y3 s ∧ ∀ e, e < j → ky_e s.1 (sA (y.1 289) (y.1 289 3)) (bS (y.1 289 2)) e) (P := fun y' => yF (fun q c => 296 ≤ q ∧ q ≤ 301) y3 y' ∧ ∀ e, e < 64 → ky_e y'.1 (sA (y.1 289) (y.1 289 3)) (bS (y.1 289 2)) e) ?_ ?_ mF 0 y3 (by decide) (by decide) ⟨yF_rf _ _, fun e he => by omega⟩
    · obtain ⟨y', k1, k2, k3⟩ := key
      have eσ' : y'.1 289 = y.1 289 := by
        rw [yF_row k2 (q := 289) (fun c z => by omega), yF_row F3 (q := 289) (fun c z => by rcases z with z | z <;> omega)]
      refine ⟨y', k1, yF_tr F3 (yF_mo k2 (fun q c z => Or.inr ⟨by omega, by omega⟩)), ?_, ?_⟩
      · unfold k_ok
        rw [eσ']
        exact k3
      · rw [k2.1 279 30 (fun z => by omega), e30]
        decide
    · intro n s hI
      show ∃ y', f_X11_knows_L27 (y.1 289 2) (n + 1) (nI 64) s = some y' ∧ _
      rw [f_X11_knows_L27, if_pos (by decide)]
      exact ⟨s, rfl, hI.1, hI.2⟩
    · intro n j s hj hI ih
      show ∃ y', f_X11_knows_L27 (y.1 289 2) (n + 1) (nI j) s = some y' ∧ _
      have ed : nI j / (8 : Int32) = nI (j / 8) := pk_div (d := 8) (by omega) (by decide) (by decide)
      have er : nI j - nI j / (8 : Int32) * (8 : Int32) = nI (j % 8) := pk_rem (d := 8) (by omega) (by decide) (by decide)
      rw [f_X11_knows_L27, if_neg (show ¬ (64 : Int32) ≤ nI j from fun z => absurd ((nI_leI (a := 64) (by omega) (by omega)).mp z) (by omega)), if_pos (in_ok hj (by decide)), cl (by omega), m_let, er, ed, nI_1]
      have F4 : yF (fun q c => 296 ≤ q ∧ q ≤ 301) y3 (m_ys s 296 j 0) := yF_set hI.1 ⟨by omega, by omega⟩
      have prev : ∀ e, e < j → ky_e (m_ys s 296 j 0).1 (sA (y.1 289) (y.1 289 3)) (bS (y.1 289 2)) e := fun e he =>
        ky_e_F (k := j) (yF_set (yF_rf _ _) (Or.inl ⟨Or.inl rfl, rfl⟩)) (Nat.ne_of_lt he) (hI.2 e he)
      have skip : ¬ (g_C (sA (y.1 289) (y.1 289 3)) (bS (y.1 289 2)) (j % 8) (j / 8) ∧ j % 8 ≠ j / 8) → ∃ y', f_X11_knows_L27 (y.1 289 2) n (nI (j + 1)) (m_ys s 296 j 0) = some y' ∧ yF (fun q c => 296 ≤ q ∧ q ≤ 301) y3 y' ∧ ∀ e, e < 64 → ky_e y'.1 (sA (y.1 289) (y.1 289 3)) (bS (y.1 289 2)) e := by
        intro hno
        refine ih _ ⟨F4, fun e he => ?_⟩
        by_cases e2 : e = j
        · rw [e2]; exact Or.inr ⟨hno, ys_eq _ _ _ _⟩
        · exact prev e (by omega)
      by_cases c1 : j / 8 = j % 8
      · rw [if_pos (by rw [c1])]
        exact skip (fun z => z.2 c1.symm)
      · rw [if_neg (fun z => c1 ((nI_eq (by omega) (by omega)).mp z))]
        by_cases c2 : bt (y.1 289 2) (j / 8) = true
        · rw [if_neg (h11t (by omega) c2)]
          by_cases c3 : bt (y.1 289 2) (j % 8) = true
          · have hE4 : nA (fun p => (m_ys s 296 j 0).1 293 (8 * 1 + p)) = sA (y.1 289) (y.1 289 3) := by
              rw [yF_row F4 (q := 293) (fun c z => by omega)]; exact hE3
            obtain ⟨C, e, hC⟩ := comes_ok (w := 1) (by decide) hN.2.2.2 (m_ys s 296 j 0) (a := j / 8) (by omega) c2
            rw [hE4] at hC
            rw [if_neg (h11t (by omega) c3), show f_X11_comes (1 : Int32) = f_X11_comes (nI 1) from rfl, e, Option.bind_some]
            by_cases c4 : bt C (j % 8) = true
            · rw [if_neg (h11t (by omega) c4)]
              have hbl4 : bl_R (m_ys s 296 j 0).1 (sA (y.1 289) (y.1 289 3)) (bS (y.1 289 2)) := by
                refine ⟨(F4.1 279 34 (fun z => by omega)).trans hbl.1, fun n hn => (F4.1 295 _ (fun z => by omega)).trans (hbl.2 n hn)⟩
              obtain ⟨y', k1, k2, k3⟩ := knowsOne_ok hN.2.1 hN.2.2.2 (r := j / 8) (v := j % 8) (k := j) (by omega) (by omega) (by omega) (g_sy hN.2.1.1 ((hC _).mp c4)) (Ne.symm c1) (m_ys s 296 j 0) hE4 hbl4 (ys_eq _ _ _ _) prev
              rw [k1, Option.bind_some]
              refine ih y' ⟨yF_tr F4 (yF_mo k2 (fun q c z => ko_W_row z)), fun e he => ?_⟩
              by_cases e2 : e = j
              · rw [e2]; exact Or.inl k3
              · exact ky_e_F k2 e2 (prev e (by omega))
            · rw [if_pos (h11f (by omega) c4)]
              exact skip (fun z => c4 ((hC _).mpr (g_sy hN.2.1.1 z.1)))
          · rw [if_pos (h11f (by omega) c3)]
            exact skip (fun z => c3 z.1.1)
        · rw [if_pos (h11f (by omega) c2)]
          exact skip (fun z => c2 (g_in z.1))
  · rw [if_neg c]
    exact ⟨y, rfl, yF_rf _ _, hk c, c⟩
