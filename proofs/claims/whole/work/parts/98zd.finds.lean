/-! ===== the text: lines are well made; words; posts found by name ===== -/
section TL
variable {B : Nat → Nat} {b N k t : Nat} {x : mX} {y : mY}
def lnP (K : Nat → Nat) (N j : Nat) : Prop := (K j = 20 ∨ K j = 22 ∨ K j = 23 → K (j + 1) = 1 ∧ j + 1 < N) ∧ (K j = 21 → K (j + 1) = 1 ∧ K (j + 2) = 1 ∧ K (j + 3) = 2 ∧ j + 3 < N) ∧ (K j = 24 → K (j + 1) = 1 ∧ K (j + 2) = 1 ∧ j + 2 < N)
theorem shp_s : ∀ k, k < 25 → ∀ x, x ∈ shp k → x < 20 := by decide +kernel
theorem lnP_s {K : Nat → Nat} {N k : Nat} (h1 : ∀ i, i < (shp (K k)).length → K (k + 1 + i) = (shp (K k)).getD i 0) (h2 : k + 1 + (shp (K k)).length ≤ N) : lnP K N k := by
  have a14 : shp (K k) = [1, 4] → K (k + 1) = 1 ∧ k + 1 < N := fun e => by
    rw [e] at h1 h2
    have h2 : k + 1 + 2 ≤ N := h2
    exact ⟨h1 0 (by decide), by omega⟩
  refine ⟨fun c => ?_, fun c => ?_, fun c => ?_⟩
  · rcases c with c | c | c
    · exact a14 (by rw [c]; exact shp_c.1)
    · exact a14 (by rw [c]; exact shp_c.2.2.1)
    · exact a14 (by rw [c]; exact shp_c.2.2.2.1)
  · rw [c, shp_c.2.1] at h1 h2
    have h2 : k + 1 + 4 ≤ N := h2
    exact ⟨h1 0 (by decide), h1 1 (by decide), h1 2 (by decide), by omega⟩
  · rw [c, shp_c.2.2.2.2] at h1 h2
    have h2 : k + 1 + 3 ≤ N := h2
    exact ⟨h1 0 (by decide), h1 1 (by decide), by omega⟩
theorem mcF_tx : ∀ n k sh p l, 401 - k < n → k ≤ 400 → (∀ x, x ∈ sh → x < 20) → (mcF B b n k sh p l).1 = 0 → (∀ i, i < sh.length → kdK B b (k + i) = sh.getD i 0) ∧ k + sh.length ≤ (mcF B b n k sh p l).2.2 ∧ ∀ j, k ≤ j → j < (mcF B b n k sh p l).2.2 → lnP (kdK B b) (mcF B b n k sh p l).2.2 j
  | 0, _, _, _, _, h, _, _, _ => absurd h (Nat.not_lt_zero _)
  | n + 1, k, sh, p, l, hn, hk, hs, hz => by
    by_cases h0 : kdK B b k = 0
    · rw [mcF_e h0] at hz ⊢
      by_cases ce : sh = []
      · subst ce
        rw [if_pos rfl]
        exact ⟨fun i hi => absurd hi (Nat.not_lt_zero _), Nat.le_refl _, fun j j1 j2 => absurd (show j < k from j2) (by omega)⟩
      · rw [if_neg ce] at hz
        exact absurd hz (show ¬ (1 = 0) by decide)
    · cases sh with
      | nil =>
        rw [mcF_n h0] at hz ⊢
        by_cases c1 : kdK B b k < 20
        · rw [if_pos c1] at hz
          exact absurd hz (show ¬ (1 = 0) by decide)
        rw [if_neg c1] at hz ⊢
        by_cases c2 : 400 ≤ k ∨ (kdK B b k = 20 ∧ p = 8) ∨ (kdK B b k = 21 ∧ l = 16)
        · rw [if_pos c2] at hz
          exact absurd hz (show ¬ (2 = 0) by decide)
        rw [if_neg c2] at hz ⊢
        obtain ⟨i1, i2, i3⟩ := mcF_tx n (k + 1) _ _ _ (by omega) (by omega) (shp_s _ (kdK_b k)) hz
        refine ⟨fun i hi => absurd hi (Nat.not_lt_zero _), by show k + 0 ≤ _; omega, fun j j1 j2 => ?_⟩
        by_cases ej : j = k
        · subst ej
          exact lnP_s i1 i2
        · exact i3 j (by omega) j2
      | cons e t =>
        rw [mcF_c h0] at hz ⊢
        by_cases c1 : kdK B b k = e
        · rw [if_pos c1] at hz ⊢
          by_cases c2 : 400 ≤ k
          · rw [if_pos c2] at hz
            exact absurd hz (show ¬ (2 = 0) by decide)
          rw [if_neg c2] at hz ⊢
          obtain ⟨i1, i2, i3⟩ := mcF_tx n (k + 1) _ _ _ (by omega) (by omega) (fun x hx => hs x (List.mem_cons_of_mem _ hx)) hz
          refine ⟨fun i hi => ?_, ?_, fun j j1 j2 => ?_⟩
          · cases i with
            | zero => exact c1
            | succ i =>
              have u := i1 i (by simpa using hi)
              rw [show k + (i + 1) = k + 1 + i by omega, u]
              rfl
          · show k + (t.length + 1) ≤ _
            omega
          · by_cases ej : j = k
            · subst ej
              have e20 := hs e (List.mem_cons_self ..)
              exact ⟨fun z => by omega, fun z => by omega, fun z => by omega⟩
            · exact i3 j (by omega) j2
        · rw [if_neg c1] at hz
          exact absurd hz (show ¬ (1 = 0) by decide)
/-- the text is well made -/
theorem tx_ok (h : (mcF B b mF 0 [] 0 0).1 = 0) (hN : (mcF B b mF 0 [] 0 0).2.2 = N) (h4 : N ≤ 400) (h0 : kdK B b N = 0) (hp : cNk (kdK B b) 20 N ≤ 8) (hl : cNk (kdK B b) 21 N ≤ 16) : txK (kdK B b) N := by
  obtain ⟨i1, i2, i3⟩ := mcF_tx (B := B) (b := b) mF 0 [] 0 0 (by decide) (by decide) (fun x hx => by cases hx) h
  rw [hN] at i3
  exact ⟨h4, fun k hk => (i3 k (Nat.zero_le _) hk).1, fun k hk => (i3 k (Nat.zero_le _) hk).2.1, fun k hk => (i3 k (Nat.zero_le _) hk).2.2, hp, hl, h0⟩
/-! words and numbers -/
def Wd (B : Nat → Nat) (b k : Nat) : List Nat := wrd B (tkS B b k) (tkL B b k)
def Vd (B : Nat → Nat) (b k : Nat) : Nat := vdg B (tkS B b k) (tkL B b k)
theorem kd1 (h : kdK B b k = 1) : tkS B b k < b ∧ ltr B (tkS B b k) (tkL B b k) ∧ tkL B b k ≤ 8 := by
  have hS : tkS B b k < b := Classical.byContradiction fun z => by rw [(kdK_0 k).mpr z] at h; cases h
  rw [show kdK B b k = kdT B (tkS B b k) (tkE B b (tkS B b k)) from if_pos hS] at h
  have u := kdT_1 h
  exact ⟨hS, ltr_tk hS u.1, u.2⟩
theorem kd2 (h : kdK B b k = 2) : Vd B b k < 10000 := by
  have hS : tkS B b k < b := Classical.byContradiction fun z => by rw [(kdK_0 k).mpr z] at h; cases h
  rw [show kdK B b k = kdT B (tkS B b k) (tkE B b (tkS B b k)) from if_pos hS] at h
  have u := kdT_2 h
  have d := dg_tk hS u.1 u.2.1
  have g : ∀ m, m ≤ 4 → (∀ q, q < m → 48 ≤ B (tkS B b k + q) ∧ B (tkS B b k + q) ≤ 57) → vdg B (tkS B b k) m < 10000 := fun m hm hd => by
    cases m with
    | zero => show 0 < 10000; decide
    | succ m =>
      have v := vdg_b (i := tkS B b k) m (by omega) (fun q hq => hd q (by omega))
      have p10 : 10 ^ m ≤ 10 ^ 3 := Nat.pow_le_pow_right (by decide) (by omega)
      have p3 : 10 ^ 3 = 1000 := by decide
      have w := hd m (by omega)
      show vdg B (tkS B b k) m * 10 + (B (tkS B b k + m) - 48) < 10000
      omega
  exact g _ u.2.2 d
theorem vl_eq {r i j : Nat} (r1 : 27 ≤ r) (r2 : r ≤ 32) (hi : kdK B b i = 1) (hj : kdK B b j = 1) : lN (vlw B r (tkS B b i) (tkL B b i)) = lN (vlw B r (tkS B b j) (tkL B b j)) ↔ Wd B b i = Wd B b j := by
  obtain ⟨i1, i2, i3⟩ := kd1 hi
  obtain ⟨j1, j2, j3⟩ := kd1 hj
  rw [pk_lEQ (vlw_63 r1 r2 i3 i2) (vlw_63 r1 r2 j3 j2), vlw_inj r1 _ _ i2 j2]
  exact Iff.rfl
/-- the class's names of the posts ahead of k, each once -/
def xNm (B : Nat → Nat) (b k : Nat) (x : mX) : Prop := x.1 1 12 = nI (cNk (Kfp (kdK B b) (Wd B b)) 20 k) ∧ ∀ j, j < k → Kfp (kdK B b) (Wd B b) j = 20 → x.2.1 11 (cNk (Kfp (kdK B b) (Wd B b)) 20 j) = lN (vlw B 32 (tkS B b (j + 1)) (tkL B b (j + 1)))
/-- the number of a post by its first line, the class's -/
def ixX (B : Nat → Nat) (b j : Nat) : Nat := cNk (Kfp (kdK B b) (Wd B b)) 20 j
/-- the first line ahead of k of the name at t -/
def fpT (B : Nat → Nat) (b k t : Nat) : Nat := fsT (kdK B b) (Wd B b) (Wd B b t) k
theorem find_x (h : xNm B b k x) (hc : ixX B b k ≤ 8) (hk : ∀ j, j < k → kdK B b j = 20 → kdK B b (j + 1) = 1) (ht : kdK B b t = 1) : f_X5_find (lN (vlw B 32 (tkS B b t) (tkL B b t))) x = some (if fpT B b k t < k then nI (ixX B b (fpT B b k t)) else -1) := by
  obtain ⟨h1, h2⟩ := h
  have hc' : cNk (Kfp (kdK B b) (Wd B b)) 20 k ≤ 8 := hc
  have r1 : (27 : Nat) ≤ 32 := by decide
  unfold f_X5_find
  refine lp_up 8 (fun n a (_ : Unit) => f_X5_find_L2 (lN (vlw B 32 (tkS B b t) (tkL B b t))) n a x) (fun j _ => ∀ i, i < j → i < cNk (Kfp (kdK B b) (Wd B b)) 20 k → x.2.1 11 i ≠ lN (vlw B 32 (tkS B b t) (tkL B b t))) (fun o => o = some (if fpT B b k t < k then nI (ixX B b (fpT B b k t)) else -1)) ?_ ?_ mF 0 () (by decide) (by decide) (fun i hi => absurd hi (Nat.not_lt_zero _))
  · intro n _ hI
    show f_X5_find_L2 _ (n + 1) (nI 8) x = _
    rw [f_X5_find_L2, if_pos (by decide)]
    by_cases c : fpT B b k t < k
    · exfalso
      have f20 := fsT_f c
      have fw := (fsT_ok (K := kdK B b) (W := Wd B b) (w := Wd B b t) k).2.1 c
      have lt := cNk_lt c f20
      refine hI _ (by omega) lt ?_
      rw [h2 _ c f20]
      exact (vl_eq r1 (Nat.le_refl _) (hk _ c fw.1) ht).mpr fw.2
    · rw [if_neg c]
  · intro n j _ hj hI ih
    show f_X5_find_L2 _ (n + 1) (nI j) x = _
    rw [f_X5_find_L2, if_neg (k8f hj), h1, nI_1]
    by_cases cn : cNk (Kfp (kdK B b) (Wd B b)) 20 k ≤ j
    · rw [if_pos (nI_le cn (by omega))]
      exact ih () (fun i hi hi2 => hI i (by omega) hi2)
    · rw [if_neg (nI_ge (by omega) (by omega)), if_pos (in_ok hj (by decide)), cl (by omega)]
      obtain ⟨q1, q2, q3⟩ := nTk_ok (K := Kfp (kdK B b) (Wd B b)) (q := 20) k j (by omega)
      have hq := h2 _ q1 q2
      rw [q3] at hq
      by_cases c : x.2.1 11 j = lN (vlw B 32 (tkS B b t) (tkL B b t))
      · rw [if_pos (cmp_0.mpr c)]
        rw [hq] at c
        have w := (vl_eq r1 (Nat.le_refl _) (hk _ q1 (Kfp_20.mp q2).1) ht).mp c
        have e : fpT B b k t = nTk (Kfp (kdK B b) (Wd B b)) 20 k j := Kfp_fs q1 q2 w
        rw [e, if_pos q1]
        unfold ixX
        rw [q3]
      · rw [if_neg (fun z => c (cmp_0.mp z))]
        refine ih () (fun i hi hi2 => ?_)
        by_cases ei : i = j
        · rw [ei]; exact c
        · exact hI i (by omega) hi2
/-- the number of a post by its first line, the reference's -/
def iyY (B : Nat → Nat) (b j : Nat) : Nat := cNk (kdK B b) 20 j
theorem named_y (h1 : y.1 279 19 = nI (iyY B b N)) (hc : iyY B b N ≤ 8) (hn : lnN B b N y) (hk : ∀ j, j < N → kdK B b j = 20 → kdK B b (j + 1) = 1) (ht : kdK B b t = 1) (t4 : t < 403) (hv : y.2 285 t = lN (vlw B 27 (tkS B b t) (tkL B b t))) : f_X11_named (nI t) y = some (if fpT B b N t < N then nI (iyY B b (fpT B b N t)) else -1) := by
  have hc' : cNk (kdK B b) 20 N ≤ 8 := hc
  have h1' : y.1 279 19 = nI (cNk (kdK B b) 20 N) := h1
  have r2 : (27 : Nat) ≤ 32 := by decide
  unfold f_X11_named
  refine lp_up (cNk (kdK B b) 20 N) (fun n a (_ : Unit) => f_X11_named_L2 (nI t) n a y) (fun j _ => ∀ i, i < j → y.2 287 i ≠ lN (vlw B 27 (tkS B b t) (tkL B b t))) (fun o => o = some (if fpT B b N t < N then nI (iyY B b (fpT B b N t)) else -1)) ?_ ?_ mF 0 () (Nat.lt_of_le_of_lt hc' (by decide)) (Nat.zero_le _) (fun i hi => absurd hi (Nat.not_lt_zero _))
  · intro n _ hI
    show f_X11_named_L2 _ (n + 1) (nI (cNk (kdK B b) 20 N)) y = _
    rw [f_X11_named_L2, h1', if_pos (nI_le (Nat.le_refl _) (by omega))]
    by_cases c : fpT B b N t < N
    · exfalso
      have fw := (fsT_ok (K := kdK B b) (W := Wd B b) (w := Wd B b t) N).2.1 c
      have lt := cNk_lt c fw.1
      refine hI _ lt ?_
      rw [hn _ c fw.1]
      exact (vl_eq (Nat.le_refl _) r2 (hk _ c fw.1) ht).mpr fw.2
    · rw [if_neg c]
  · intro n j _ hj hI ih
    show f_X11_named_L2 _ (n + 1) (nI j) y = _
    rw [f_X11_named_L2, h1', if_neg (nI_ge hj (by omega)), if_pos (in_ok (by omega) (by decide)), if_pos (in_ok t4 (by decide)), cl (by omega), cl (by omega), nI_1, hv]
    obtain ⟨q1, q2, q3⟩ := nTk_ok (K := kdK B b) (q := 20) N j hj
    have hq := hn _ q1 q2
    rw [q3] at hq
    by_cases c : y.2 287 j = lN (vlw B 27 (tkS B b t) (tkL B b t))
    · rw [if_pos (cmp_0.mpr c)]
      rw [hq] at c
      have w := (vl_eq (Nat.le_refl _) r2 (hk _ q1 q2) ht).mp c
      have e : fpT B b N t = nTk (kdK B b) 20 N j := fsT_at q1 ⟨q2, w⟩ (fun i hi z => by
        have lt := cNk_lt hi z.1
        refine hI _ (show cNk (kdK B b) 20 i < j by omega) ?_
        rw [hn i (by omega) z.1]
        exact (vl_eq (Nat.le_refl _) r2 (hk _ (by omega) z.1) ht).mpr z.2)
      rw [e, if_pos q1]
      unfold iyY
      rw [q3]
    · rw [if_neg (fun z => c (cmp_0.mp z))]
      refine ih () (fun i hi => ?_)
      by_cases ei : i = j
      · rw [ei]; exact c
      · exact hI i (by omega)
end TL
