/-! ===== calls: cheap, pair, grow, search, would ===== -/
section SH
variable {np rt w : Nat} {x x' : mX} {y y' : mY} {p1 p2 p3 p4 : Int32}
theorem csd_un {σ : Nat → Int32} (hn : np ≤ 8) {s d s' d' : Nat} (h : csd σ np p1 p2 s d) (h' : csd σ np p1 p2 s' d') : s = s' ∧ d = d' := by
  have a1 := h.1
  have a2 := h.2.1
  have a3 := h'.1
  have a4 := h'.2.1
  exact ⟨(nI_eq (by omega) (by omega)).mp (h.2.2.1.symm.trans h'.2.2.1), (nI_eq (by omega) (by omega)).mp (h.2.2.2.1.symm.trans h'.2.2.2.1)⟩
/-- both say the same of two -/
theorem two_send (h : IV np rt x y) (p1 p2 : Int32) : (∃ s d, csd (y.1 289) np p1 p2 s d ∧ f_X10_canSend p1 p2 x = 1 ∧ f_X11_canSend p1 p2 y = some 1) ∨ ((∀ s d, ¬ csd (y.1 289) np p1 p2 s d) ∧ f_X10_canSend p1 p2 x = 0 ∧ f_X11_canSend p1 p2 y = some 0) := by
  rcases canSend_x h p1 p2 with ⟨s, d, k, e⟩ | ⟨k, e⟩
  · rcases canSend_y h.1.1 h.2.1.1 p1 p2 with ⟨s', d', k', e'⟩ | ⟨k', e'⟩
    · exact Or.inl ⟨s, d, k, e, e'⟩
    · exact absurd k (k' s d)
  · rcases canSend_y h.1.1 h.2.1.1 p1 p2 with ⟨s', d', k', e'⟩ | ⟨k', e'⟩
    · exact absurd k' (k s' d')
    · exact Or.inr ⟨k, e, e'⟩
theorem lt_M {r : Nat} (h : r ≤ 1000099) {α : Type} (a b : α) : (if nI r < (1000000 : Int32) then a else b) = if r < 1000000 then a else b := by
  by_cases c : r < 1000000
  · rw [if_pos c, if_pos (show nI r < (1000000 : Int32) from nI_lt (b := 1000000) c (by decide))]
  · rw [if_neg c, if_neg (show ¬ nI r < (1000000 : Int32) from nI_nlt (b := 1000000) (by omega) (by omega))]
theorem st_cheap (h : IV np rt x y) : sam (f_X10_cheap p1 p2 x) (f_X11_cheap p1 p2 y) := by
  unfold f_X10_cheap f_X11_cheap
  have hW := h.1.1
  have hR := h.1.2
  rcases two_send h p1 p2 with ⟨s, d, k, e, e'⟩ | ⟨k, e, e'⟩
  · obtain ⟨s1, d1, rfl, rfl, sd, os, od⟩ := k
    have n8 := hW.1
    rw [e, e', if_neg (by decide), Option.bind_some, if_neg (by decide)]
    obtain ⟨V, v1, v2⟩ := live_ok x hR hW
    rw [v1, Option.bind_some, hR.2.2.1]
    obtain ⟨r, x1, g1, g2, g3, g4⟩ := cheapest_ok hW (M := V) (Wi := y.1 289 0) (S := bS (y.1 289 0)) (fun p => Iff.rfl) (sW_b8 hW).1 (d := d) os (by omega) x hR
    obtain ⟨L, may, y1, l1, l2, l3, l4, l5⟩ := laysWays_ok (s := s) (d := d) y hW (by omega) (by omega)
    obtain ⟨r', f1, f2⟩ := cheap_L hW y1 l5
    rw [g1, Option.bind_some, l3, Option.bind_some, f1]
    have eL := sL_un v2 l1
    subst eL
    have m1 := (cheap_eq (sC_W hW V) sd os od).mp ((mr_cong (fun c => PV_set (L := V) l2 (sW_b8 hW).1)).mp f2)
    have er : r = r' := by
      rcases g3 with ⟨c, c1, c2⟩ | ⟨c1, c2⟩
      · rcases m1 with ⟨c', k1, k2⟩ | ⟨k1, k2⟩
        · rw [c2, k2, om_un c1 k1]
        · exact absurd c1 (k1 c)
      · rcases m1 with ⟨c', k1, k2⟩ | ⟨k1, k2⟩
        · exact absurd k1 (c1 c')
        · rw [c2, k2]
    subst er
    dsimp only
    rw [lt_M (by omega)]
    have i2 : IV np rt x1 y1 := IV_yF (IV_xF h g2 (fun q c z => by unfold pr_F at z; unfold scX; omega)) l4 (fun q c z => by unfold wz_W wy_W at z; unfold scY; omega)
    by_cases c : r < 1000000
    · rw [if_pos c, if_pos c]
      exact ⟨_, x1, y1, rfl, rfl, np, rt, i2⟩
    · rw [if_neg c, if_neg c]
      exact ⟨_, x1, y1, rfl, rfl, np, rt, i2⟩
  · rw [e, e', if_pos rfl, Option.bind_some, if_pos rfl]
    exact ⟨_, x, y, rfl, rfl, np, rt, h⟩
theorem st_pair (h : IV np rt x y) : sam (f_X10_pair p1 p2 x) (f_X11_pair p1 p2 y) := by
  unfold f_X10_pair f_X11_pair
  have hW := h.1.1
  have hR := h.1.2
  rcases two_send h p1 p2 with ⟨s, d, k, e, e'⟩ | ⟨k, e, e'⟩
  · obtain ⟨s1, d1, rfl, rfl, sd, os, od⟩ := k
    have n8 := hW.1
    rw [e, e', if_neg (by decide), Option.bind_some, if_neg (by decide)]
    obtain ⟨L, may, y1, l1, l2, l3, l4, l5⟩ := laysWays_ok (s := s) (d := d) y hW (by omega) (by omega)
    obtain ⟨v, x1, g1, g2, g3, g4⟩ := cheapestTwo_ok hW (by omega) (by omega) sd os od l2 x hR l1
    obtain ⟨r', f1, f2⟩ := pair_L hW y1 l5
    rw [g1, Option.bind_some, l3, Option.bind_some, f1, ← g4 r' f2]
    dsimp only
    rw [lt_M (by omega)]
    have i2 : IV np rt x1 y1 := IV_yF (IV_xF h g2 (fun q c z => by unfold pr_F at z; unfold scX; omega)) l4 (fun q c z => by unfold wz_W wy_W at z; unfold scY; omega)
    by_cases c : v < 1000000
    · rw [if_pos c, if_pos c]
      exact ⟨_, x1, y1, rfl, rfl, np, rt, i2⟩
    · rw [if_neg c, if_neg c]
      exact ⟨_, x1, y1, rfl, rfl, np, rt, i2⟩
  · rw [e, e', if_pos rfl, Option.bind_some, if_pos rfl]
    exact ⟨_, x, y, rfl, rfl, np, rt, h⟩
theorem st_grow (h : IV np rt x y) : sam (f_X10_grow p1 x) (f_X11_grow p1 y) := by
  unfold f_X10_grow
  obtain ⟨x1, e1, i1, z1⟩ := presentNet_ok h
  obtain ⟨V, v1, v2, v3⟩ := i1.2.2.2.2.2.1 z1
  have hN := sL_N h.1.1 v1
  rw [e1, Option.bind_some]
  dsimp only
  rw [if_pos rfl]
  have plan : ∃ x2, f_X1_plan x1 = some x2 ∧ IV np rt x2 y ∧ kg x2 (sA (y.1 289) V) (y.1 289 0) := by
    rcases v3 with k | k
    · obtain ⟨x2, g1, g2, g3⟩ := plan_new x1 hN.2.2.2 hN.2.1 v2.1 v2.2.2.1 k
      refine ⟨x2, g1, IV_c i1 (fun q c hq => ?_) ?_ ?_, g3⟩
      · rw [g2.1 q (fun z => hq (by unfold gY at z; unfold chX scX; omega))]
      · intro _
        exact ⟨V, v1, n_ok_cg (fun q q1 q2 => g2.1 q (by unfold gY; omega)) v2, Or.inr g3⟩
      · refine cL_mo (x := x1) (by rw [g2.1 0 (by unfold gY; omega)]) (fun q q1 q2 => g2.1 q (by unfold gY; omega)) (by rw [g2.1 234 (by unfold gY; omega)]) (fun q q1 q2 => g2.1 q (by unfold gY; omega)) i1.2.2.2.2.2.2.1
    · exact ⟨x1, plan_old x1 k.1, i1, k⟩
  obtain ⟨x2, g1, g2, g3⟩ := plan
  rw [g1, Option.bind_some]
  obtain ⟨r, y1, f1, f2, f3⟩ := grow_same y h.1.1 h.2.1.1 v1 x2 g3 p1
  rw [f3, f1]
  exact ⟨_, x2, y1, rfl, rfl, np, rt, IV_yF g2 f2 (fun q c z => by unfold gr_W at z; unfold scY; omega)⟩
/-- 0, 1, 2 and other -/
theorem in_3 (p : Int32) : (p = 0 ∧ f_X11_in p 0 2 = 1) ∨ (p = 1 ∧ f_X11_in p 0 2 = 1) ∨ (p = 2 ∧ f_X11_in p 0 2 = 1) ∨ (¬ p = 0 ∧ ¬ p = 1 ∧ ¬ p = 2 ∧ f_X11_in p 0 2 = 0) := by
  rcases in_cases p (n := 3) (by decide) with ⟨k, k1, k2, k3⟩ | ⟨k1, k3⟩
  · rw [show nI 3 - 1 = (2 : Int32) by decide] at k3
    have t : k = 0 ∨ k = 1 ∨ k = 2 := by omega
    rcases t with rfl | rfl | rfl
    · exact Or.inl ⟨k2.trans nI_0, k3⟩
    · exact Or.inr (Or.inl ⟨k2.trans (by decide), k3⟩)
    · exact Or.inr (Or.inr (Or.inl ⟨k2.trans (by decide), k3⟩))
  · rw [show nI 3 - 1 = (2 : Int32) by decide] at k3
    exact Or.inr (Or.inr (Or.inr ⟨fun z => k1 0 (by decide) (z.trans nI_0.symm), fun z => k1 1 (by decide) (z.trans (by decide)), fun z => k1 2 (by decide) (z.trans (by decide)), k3⟩))
theorem in_4 (p : Int32) : (p = 0 ∧ f_X11_in p 0 3 = 1) ∨ (p = 1 ∧ f_X11_in p 0 3 = 1) ∨ (p = 2 ∧ f_X11_in p 0 3 = 1) ∨ (p = 3 ∧ f_X11_in p 0 3 = 1) ∨ (¬ p = 0 ∧ ¬ p = 1 ∧ ¬ p = 2 ∧ ¬ p = 3 ∧ f_X11_in p 0 3 = 0) := by
  rcases in_cases p (n := 4) (by decide) with ⟨k, k1, k2, k3⟩ | ⟨k1, k3⟩
  · rw [show nI 4 - 1 = (3 : Int32) by decide] at k3
    have t : k = 0 ∨ k = 1 ∨ k = 2 ∨ k = 3 := by omega
    rcases t with rfl | rfl | rfl | rfl
    · exact Or.inl ⟨k2.trans nI_0, k3⟩
    · exact Or.inr (Or.inl ⟨k2.trans (by decide), k3⟩)
    · exact Or.inr (Or.inr (Or.inl ⟨k2.trans (by decide), k3⟩))
    · exact Or.inr (Or.inr (Or.inr (Or.inl ⟨k2.trans (by decide), k3⟩)))
  · rw [show nI 4 - 1 = (3 : Int32) by decide] at k3
    exact Or.inr (Or.inr (Or.inr (Or.inr ⟨fun z => k1 0 (by decide) (z.trans nI_0.symm), fun z => k1 1 (by decide) (z.trans (by decide)), fun z => k1 2 (by decide) (z.trans (by decide)), fun z => k1 3 (by decide) (z.trans (by decide)), k3⟩)))
theorem st_search (h : IV np rt x y) : sam (f_X10_search p1 p2 p3 x) (f_X11_search p1 p2 p3 y) := by
  unfold f_X10_search f_X11_search
  have hW := h.1.1
  have hR := h.1.2
  have n8 := hW.1
  have hN := sN_learnt hW
  have px : ∀ p, (∃ k, k < np ∧ p = nI k ∧ f_X10_isPost p x = 1 ∧ f_X11_isPost p y = some 1) ∨ (f_X10_isPost p x = 0 ∧ f_X11_isPost p y = some 0) := fun p => by
    rcases isPost_x n8 x hR.1 p with ⟨k, k1, k2, k3⟩ | ⟨k1, k3⟩
    · rcases isPost_y n8 y h.2.1.1 p with ⟨j, j1, j2, j3⟩ | ⟨j1, j3⟩
      · exact Or.inl ⟨k, k1, k2, k3, j3⟩
      · exact absurd k2 (j1 k k1)
    · rcases isPost_y n8 y h.2.1.1 p with ⟨j, j1, j2, j3⟩ | ⟨j1, j3⟩
      · exact absurd j2 (k1 j j1)
      · exact Or.inr ⟨k3, j3⟩
  rcases px p1 with ⟨a, a1, rfl, a2, a3⟩ | ⟨a2, a3⟩
  · rw [a2, a3, if_neg (show ¬ (1 : Int32) = 0 by decide), Option.bind_some, if_neg (show ¬ (1 : Int32) = 0 by decide)]
    rcases px p2 with ⟨v, v1, rfl, v2, v3⟩ | ⟨v2, v3⟩
    · rw [v2, v3, if_neg (show ¬ (1 : Int32) = 0 by decide), Option.bind_some, if_neg (show ¬ (1 : Int32) = 0 by decide)]
      obtain ⟨x1, e1, i1, z1⟩ := learntNet_ok h
      obtain ⟨c1, _⟩ := i1.2.2.2.2.2.2.1 z1
      rw [e1, Option.bind_some]
      dsimp only
      rw [if_pos rfl, if_pos (in_ok (by omega) (by decide)), cl (by omega)]
      have nk := c1.2.2.2.1.1 a (by omega) v
      by_cases cr : bt (x1.1 230 a) v = true
      · have gc := nk.mp cr
        have oa : bt (y.1 289 2) a = true := gc.1
        have ov : bt (y.1 289 2) v = true := (g_sy hN.2.1.1 gc).1
        rw [if_neg (h10t (by omega) cr)]
        obtain ⟨x2, R, lo, f1, f2, f3, f4, f5⟩ := walk_ok hN.2.1 oa x1 c1.2.2.1
        obtain ⟨y2, R', lo', g1, g2, g3, g4, g5⟩ := searches_ok y hW oa
        have eR := ds_un _ _ _ _ _ _ _ f3.1 g3.1
        subst eR
        have nv : R.1 v ≠ 99 := (DI_end f3.2 v).mpr gc
        have i2 : IV np rt x2 y2 := IV_yF (IV_xF i1 f2 (fun q c z => by unfold wk_W at z; unfold scX; omega)) g2 (fun q c z => by unfold se_W at z; unfold scY; omega)
        have lo_e := lw_un hN.2.1 f3.2 (fun p hp => (f5 p hp).2) (fun p hp => (g5 p hp).2) v nv
        have b8v := DI_lt hN.2.1 f3.2 nv
        rw [f1, Option.bind_some]
        rcases in_3 p3 with ⟨k0, k⟩ | ⟨k1, k⟩ | ⟨k2, k⟩ | ⟨k0, k1, k2, k⟩
        · rw [k, if_neg (show ¬ (1 : Int32) = 0 by decide), if_neg (h11t (by omega) oa), if_neg (h11t (by omega) ov), g1, Option.bind_some, if_pos (in_ok (by omega) (by decide)), cl (by omega), g4.1 v (by omega), nz_ok nv, if_pos (nI_pos' (by omega)), if_pos k0, if_pos k0, if_pos (in_ok (by omega) (by decide)), (f4.2.1 v (by omega)).1, nz_ok nv]
          exact ⟨_, x2, y2, rfl, if_pos (in_ok (by omega) (by decide)), np, rt, i2⟩
        · have k0 : ¬ p3 = 0 := by rw [k1]; decide
          rw [k, if_neg (show ¬ (1 : Int32) = 0 by decide), if_neg (h11t (by omega) oa), if_neg (h11t (by omega) ov), g1, Option.bind_some, if_pos (in_ok (by omega) (by decide)), cl (by omega), g4.1 v (by omega), nz_ok nv, if_pos (nI_pos' (by omega)), if_neg k0, if_neg k0, if_pos k1, if_pos k1, if_pos (in_ok (by omega) (by decide)), (f4.2.1 v (by omega)).2, if_pos (in_ok (by omega) (by decide)), g4.2 v nv]
          exact ⟨_, x2, y2, rfl, if_pos (in_ok (by omega) (by decide)), np, rt, i2⟩
        · have k0 : ¬ p3 = 0 := by rw [k2]; decide
          have k1 : ¬ p3 = 1 := by rw [k2]; decide
          rw [k, if_neg (show ¬ (1 : Int32) = 0 by decide), if_neg (h11t (by omega) oa), if_neg (h11t (by omega) ov), g1, Option.bind_some, if_pos (in_ok (by omega) (by decide)), cl (by omega), g4.1 v (by omega), nz_ok nv, if_pos (nI_pos' (by omega)), if_neg k0, if_neg k0, if_neg k1, if_neg k1, if_pos k2, if_pos (in_ok (by omega) (by decide)), if_pos (in_ok (by omega) (by decide)), (f5 v nv).1, (g5 v nv).1, lo_e]
          exact ⟨_, x2, y2, rfl, if_pos (in_ok (by omega) (by decide)), np, rt, i2⟩
        · rw [k, if_pos (show (0 : Int32) = 0 from rfl), if_neg k0, if_neg k1, if_neg k2]
          exact ⟨_, x2, y, rfl, rfl, np, rt, IV_xF i1 f2 (fun q c z => by unfold wk_W at z; unfold scX; omega)⟩
      · rw [if_pos (h10f (by omega) cr)]
        by_cases ci : f_X11_in p3 0 2 = 0
        · rw [if_pos ci]
          exact ⟨_, x1, y, rfl, rfl, np, rt, i1⟩
        · rw [if_neg ci]
          by_cases oa : bt (y.1 289 2) a = true
          · rw [if_neg (h11t (by omega) oa)]
            by_cases ov : bt (y.1 289 2) v = true
            · obtain ⟨y2, R', lo', g1, g2, g3, g4, g5⟩ := searches_ok y hW oa
              have nv : R'.1 v = 99 := Classical.byContradiction fun z => cr (nk.mpr ((DI_end g3.2 v).mp z))
              rw [if_neg (h11t (by omega) ov), g1, Option.bind_some, if_pos (in_ok (by omega) (by decide)), cl (by omega), g4.1 v (by omega), nv, nz_99, if_neg (by decide)]
              exact ⟨_, x1, y2, rfl, rfl, np, rt, IV_yF i1 g2 (fun q c z => by unfold se_W at z; unfold scY; omega)⟩
            · rw [if_pos (h11f (by omega) ov)]
              exact ⟨_, x1, y, rfl, rfl, np, rt, i1⟩
          · rw [if_pos (h11f (by omega) oa)]
            exact ⟨_, x1, y, rfl, rfl, np, rt, i1⟩
    · rw [v2, v3, if_pos (show (0 : Int32) = 0 from rfl), Option.bind_some, if_pos (show (0 : Int32) = 0 from rfl)]
      exact ⟨_, x, y, rfl, rfl, np, rt, h⟩
  · rw [a2, a3, if_pos rfl, Option.bind_some, if_pos rfl]
    exact ⟨_, x, y, rfl, rfl, np, rt, h⟩
end SH
