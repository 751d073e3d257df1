/-! ===== grow: the reference's tries of so many links (2) ===== -/
section SA
variable {A : Nat → Nat → Prop} {P L : Int32} {m np : Nat} {r t : Nat → Nat}
theorem ucn_N : g_n (ucn A P) 64 < 29 := by
  refine Classical.byContradiction fun z => ?_
  obtain ⟨c, c1, c2, c3⟩ := g_n_sel (P := ucn A P) (N := 64) (i := 28) (by omega)
  have := ucn_28 c1 c2
  omega
theorem tyr_cong (h : ∀ j, j < m → t j = r j) : tyr A P m t ↔ tyr A P m r := by
  unfold tyr
  rw [show tSr A P t m = tSr A P r m from funext fun c => propext ⟨fun ⟨j, j1, e⟩ => ⟨j, j1, by rw [e, h j j1]⟩, fun ⟨j, j1, e⟩ => ⟨j, j1, by rw [e, h j j1]⟩⟩]
/-- the state in which the tries are made -/
def gry (A : Nat → Nat → Prop) (P L : Int32) (np : Nat) (y : mY) : Prop := sW (y.1 289) np ∧ sL (y.1 289) L ∧ A = sA (y.1 289) L ∧ P = y.1 289 0 ∧ y.1 279 62 = nI (g_n (ucn A P) 64) ∧ ∀ d, d < 64 → ucn A P d → y.1 313 (g_n (ucn A P) d) = nI (10 * (d / 8) + d % 8)
theorem gry_mo {y y' : mY} (h : gry A P L np y) (w : yF gE_W y y') : gry A P L np y' := by
  obtain ⟨h1, h2, h3, h4, h5, h6⟩ := h
  have e : y'.1 289 = y.1 289 := yF_row w (fun c => by unfold gE_W; omega)
  refine ⟨by rw [e]; exact h1, by rw [e]; exact h2, by rw [e]; exact h3, by rw [e]; exact h4, by rw [w.1 279 62 (by unfold gE_W; omega)]; exact h5, fun d hd hu => by rw [w.1 313 _ (by unfold gE_W; omega)]; exact h6 d hd hu⟩
def fst_r (A : Nat → Nat → Prop) (P : Int32) (m : Nat) (r : Nat → Nat) : Prop := ricr m (g_n (ucn A P) 64) r ∧ tyr A P m r ∧ ∀ t, ricr m (g_n (ucn A P) 64) t → rbfo m t r → ¬ tyr A P m t
def aE_P (A : Nat → Nat → Prop) (P : Int32) (m : Nat) (y : mY) (o : Option (Int32 × mY)) : Prop := (∃ r y', o = some (1, y') ∧ yF gE_W y y' ∧ (∀ j, j < m → y'.1 314 j = nI (r j)) ∧ fst_r A P m r) ∨ (∃ y', o = some (0, y') ∧ yF gE_W y y' ∧ ∀ t, ricr m (g_n (ucn A P) 64) t → ¬ tyr A P m t)
theorem aE_L35 (y : mY) (hy : gry A P L np y) (hm : m < 5) (hmN : m ≤ g_n (ucn A P) 64) (s : mY) (hs : yF gE_W y s) (hr : ∀ j, j < m → s.1 314 j = nI j) : aE_P A P m y (f_X11_areEnough_L35 (nI m) L mF s) := by
  have hN := (sL_N hy.1 hy.2.1).2.1
  have h8 := (sL_N hy.1 hy.2.1).2.2.2
  have hLs := (sL_N hy.1 hy.2.1).2.2.1
  rw [← hy.2.2.1, ← hy.2.2.2.1] at hN
  rw [← hy.2.2.2.1] at h8
  refine lp_wh (fun n (s : (Nat → Nat) × mY) => f_X11_areEnough_L35 (nI m) L n s.2) (fun s => rkf (g_n (ucn A P) 64) s.1 m 0) (fun s => yF gE_W y s.2 ∧ (∀ j, j < m → s.2.1 314 j = nI (s.1 j)) ∧ ricr m (g_n (ucn A P) 64) s.1 ∧ ∀ t, ricr m (g_n (ucn A P) 64) t → rbfo m t s.1 → ¬ tyr A P m t) (aE_P A P m y) ?_ mF (fun j => j, s) (Nat.lt_of_le_of_lt (rkf_b (by have := ucn_N (A := A) (P := P); omega) _ m 0) (bsm_4 m hm)) ⟨hs, hr, ⟨fun j hj => by dsimp only; omega, fun j hj => by dsimp only; omega⟩, fun t ht hb => absurd hb (row_first ht)⟩
  rintro n ⟨r, s⟩ ⟨hs, hr, hri, hb⟩ ih
  dsimp only at hs hr hri hb
  show aE_P A P m y (f_X11_areEnough_L35 (nI m) L (n + 1) s)
  have es : s.1 289 = y.1 289 := yF_row hs (fun c => by unfold gE_W; omega)
  obtain ⟨s1, e1, w1, r1⟩ := lays_ok (w := 2) (by decide) (L := L) s (by rw [es]; exact hy.1) (by rw [es]; exact hLs)
  rw [f_X11_areEnough_L35, show (2 : Int32) = nI 2 from rfl, e1, Option.bind_some]
  have w1' : yF gE_W s s1 := yF_mo (yF_R w1) (fun q c h => Or.inr h)
  have hs1 : yF gE_W y s1 := yF_tr hs w1'
  have g1 := gry_mo hy hs1
  obtain ⟨s2, w2, n2, e2⟩ := aE_L43 (A := A) (P := P) (m := m) (r := r) s1 hm g1.2.2.2.2.2 (fun j hj => by rw [w1.1 314 (by decide)]; exact hr j hj) hri (fun p hp q => by
    rw [hy.2.2.1, ← es]
    exact r1 p hp q) (fun a b hab => ⟨hN.2.2 a (hN.2.1 a b hab).1, hN.2.2 b (hN.2.1 a b hab).2.1⟩) (fun y7 => ((f_X11_isTied y7).bind fun q8 => (if q8 = 0 then ((f_X11_nextPick (nI m) y7).bind fun q9 => (if q9.1 = 0 then (some ((0 : Int32), q9.2)) else (f_X11_areEnough_L35 (nI m) L n q9.2))) else (some ((1 : Int32), y7)))))
  rw [e2]
  have hs2 : yF gE_W y s2 := yF_tr hs1 (yF_mo w2 (fun q c h => Or.inr h))
  have g2 := gry_mo hy hs2
  have hr2 : ∀ j, j < m → s2.1 314 j = nI (r j) := fun j hj => by
    rw [w2.1 314 j (by unfold gN_W; omega), w1.1 314 (by decide)]
    exact hr j hj
  have hN2 : g_N (pn A (tSr A P r m) 64) (bS P) := pl_N (P := tSr A P r m) hN (ucn_lk 64) (fun c hc => (tSr_u hri hc).1) 64 (Nat.le_refl _)
  rcases isTied_ok (A := pn A (tSr A P r m) 64) s2 (by rw [← g2.2.2.2.1]; exact h8) hN2.1 n2 with ⟨h1, h2⟩ | ⟨h1, h2⟩
  · rw [h2, Option.bind_some, if_neg (by decide)]
    rw [← g2.2.2.2.1] at h1
    exact Or.inl ⟨r, s2, rfl, hs2, hr2, hri, h1, hb⟩
  · rw [h2, Option.bind_some, if_pos rfl]
    rw [← g2.2.2.2.1] at h1
    rcases nextPick_ok (m := m) (N := g_n (ucn A P) 64) (r := r) s2 hm ucn_N hmN g2.2.2.2.2.1 hr2 hri with ⟨i, s3, i1, i2, i3, e3, w3, r3⟩ | ⟨i1, e3⟩
    · rw [e3, Option.bind_some, if_neg (show ¬ (1 : Int32) = 0 by decide)]
      refine ih (nxrw r i, s3) ⟨yF_tr hs2 (yF_mo w3 (fun q c h => Or.inl h)), r3, nxrw_ok hri i1 i2, fun t ht htb => ?_⟩ (rkf_lt hri i1 i2)
      rcases nxrw_bf hri i1 i3 ht htb with k | k
      · rw [tyr_cong k]; exact h1
      · exact hb t ht k
    · rw [e3, Option.bind_some, if_pos rfl]
      refine Or.inr ⟨s2, rfl, hs2, fun t ht => ?_⟩
      rcases row_last i1 ht with k | k
      · rw [tyr_cong k]; exact h1
      · exact hb t ht k
theorem areEnough_ok (y : mY) (hy : gry A P L np y) (hm : m < 5) : aE_P A P m y (f_X11_areEnough (nI m) y) := by
  have lN := ucn_N (A := A) (P := P)
  rw [f_X11_areEnough, hy.2.2.2.2.1]
  by_cases c : m ≤ g_n (ucn A P) 64
  · rw [if_pos (nI_le c (by omega))]
    obtain ⟨y1, w1, r1, e1⟩ := aE_L12 (m := m) y hm (fun y2 => ((f_X11_netLinks y2).bind fun q3 => (f_X11_areEnough_L35 (nI m) q3 mF y2)))
    rw [e1]
    have w1' : yF gE_W y y1 := yF_mo w1 (fun q c h => Or.inl h)
    have g1 := gry_mo hy w1'
    obtain ⟨V, v1, v2⟩ := netLinks_ok y1 g1.1
    rw [v1, Option.bind_some, sL_un v2 g1.2.1]
    exact aE_L35 y hy hm c y1 w1' r1
  · rw [if_neg (nI_ge (by omega) (by omega))]
    refine Or.inr ⟨y, rfl, yF_rf _ y, fun t ht => ?_⟩
    have := ricr_hi ht (show 0 < m by omega)
    omega
/-- how many, and the first row -/
theorem gL104_ok (y : mY) (hy : gry A P L np y) {S : Nat → Prop} (hS : nd A (bS P) ≤ 4 → gS A P S 64) (kk : Int32 → mY → Option (Int32 × mY)) : (4 < nd A (bS P) ∧ ∃ y', f_X11_grow_L104 mF 0 y kk = some (-2, y') ∧ yF gE_W y y') ∨ (nd A (bS P) ≤ 4 ∧ ∃ y', f_X11_grow_L104 mF 0 y kk = kk (nI (nd A (bS P))) y' ∧ yF gE_W y y' ∧ ∀ j, j < nd A (bS P) → y'.1 314 j = nI (srw A P S j)) := by
  have hN := (sL_N hy.1 hy.2.1).2.1
  rw [← hy.2.2.1, ← hy.2.2.2.1] at hN
  have z := lp_up 5 (fun n b (s : mY) => f_X11_grow_L104 n b s kk) (fun j s => yF gE_W y s ∧ j ≤ nd A (bS P)) (fun o => (4 < nd A (bS P) ∧ ∃ y', o = some (-2, y') ∧ yF gE_W y y') ∨ (nd A (bS P) ≤ 4 ∧ ∃ y', o = kk (nI (nd A (bS P))) y' ∧ yF gE_W y y' ∧ ∀ j, j < nd A (bS P) → y'.1 314 j = nI (srw A P S j))) (by
    rintro n s ⟨h1, h2⟩
    show (_ ∧ ∃ y', f_X11_grow_L104 (n + 1) (nI 5) s kk = _ ∧ _) ∨ (_ ∧ ∃ y', f_X11_grow_L104 (n + 1) (nI 5) s kk = _ ∧ _)
    rw [f_X11_grow_L104, if_pos (by decide)]
    exact Or.inl ⟨by omega, s, rfl, h1⟩) (by
    rintro n j s hj ⟨h1, h2⟩ ih
    show (_ ∧ ∃ y', f_X11_grow_L104 (n + 1) (nI j) s kk = _ ∧ _) ∨ (_ ∧ ∃ y', f_X11_grow_L104 (n + 1) (nI j) s kk = _ ∧ _)
    rw [f_X11_grow_L104, if_neg (show ¬ (4 : Int32) < nI j from nI_nlt (a := 4) (by omega) (by decide)), nI_1]
    rcases areEnough_ok (m := j) s (gry_mo hy h1) hj with ⟨r, y', e, w, hr, f1, f2, f3⟩ | ⟨y', e, w, hno⟩
    · have hnd := tyr_n hN f2
      have ej : j = nd A (bS P) := by omega
      rw [e, Option.bind_some, if_neg (show ¬ (1 : Int32) = 0 by decide)]
      refine Or.inr ⟨by omega, y', by rw [← ej], yF_tr h1 w, fun i hi => ?_⟩
      have gs := hS (by omega)
      rw [hr i (by omega), first_S hN gs (by rw [(gS_td hN gs).2, ej]) f1 f2 f3 i (by omega)]
    · rw [e, Option.bind_some, if_pos rfl]
      refine ih y' ⟨yF_tr h1 w, ?_⟩
      refine Classical.byContradiction fun k => ?_
      have ej : j = nd A (bS P) := by omega
      have gs := hS (by omega)
      have en : g_n S 64 = j := by rw [(gS_td hN gs).2, ej]
      have k1 := srw_ri (A := A) (P := P) (S := S) (fun c hc => (gs.1 c hc).1)
      have k2 := srw_ties hN gs
      rw [en] at k1 k2
      exact hno _ k1 k2) mF 0 y (by decide) (by decide) ⟨yF_rf _ y, Nat.zero_le _⟩
  exact z
end SA
