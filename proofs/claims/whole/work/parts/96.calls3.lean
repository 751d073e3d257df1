/-! ===== calls by the tables (2): order, way, both, dear, ear ===== -/
section SG
variable {np rt w : Nat} {x x' : mX} {y y' : mY} {p1 p2 p3 p4 : Int32}
theorem b_row {n : Nat} {B : Nat → Prop} (hn : n < 256) (h : ∀ i, bt (nI n) i = true ↔ B i) : f_X11_bitsOf (nI n) = some (nI (g_n B 8)) := by
  rw [bitsOf_ok (b8_nI hn), show bS (nI n) = B from funext fun i => propext (h i)]
theorem st_order (h : IV np rt x y) : sam (f_X10_order p1 p2 p3 x) (f_X11_order p1 p2 p3 y) := by
  unfold f_X10_order f_X11_order
  obtain ⟨r0, x1, y1, e1, i1, ⟨a, v, n, p, t, f, rd, bl, a8, v8, rfl, rfl, rfl, z8, ct, e2, ko, en⟩ | ⟨rfl, e2⟩⟩ := two_way h p1 p2
  · have n8 := h.1.1.1
    have hN := sN_learnt i1.1.1
    have p8 := ent_8 hN.2.1 en
    rw [e1, Option.bind_some, e2, Option.bind_some]
    dsimp only
    rw [if_neg (by decide), ownOf_ok (by omega) (by omega), Option.bind_some, headOf_ok (by omega) (by omega), Option.bind_some, en.2.1.1, en.2.1.2.1]
    obtain ⟨x2, f1, w2, g, o2, r2⟩ := arrange_ok x1 hN.2.1 (i1.2.2.2.2.2.2.1 z8).1.2.2.1 en.1.2.2.2.2.1 p8.2.2.2 p8.1 p8.2.1 en.1.2.2.2.2.2.1
    have fg := od_1_un en.1.2.2.2.2.2.2.1 o2
    have i2 : IV np rt x2 y1 := IV_xF i1 w2 (fun q c z => by unfold ar_W at z; unfold scX; omega)
    rw [f1, Option.bind_some, if_pos (nI_pos' (by omega)), if_pos (in_ok (by omega) (by decide)), cl (by omega), en.2.2.1, b_row en.1.2.2.2.1 en.1.2.2.2.2.1, Option.bind_some, r2.1]
    have bd := g_n_bound (P := g_B (sA (y1.1 289) (y1.1 289 3)) (bS (y1.1 289 2)) v p) 8
    by_cases c1 : p3 = -1
    · rw [if_pos c1, if_pos c1]
      exact ⟨_, x2, y1, rfl, rfl, np, rt, i2⟩
    rw [if_neg c1, if_neg c1]
    rcases in_cases p3 (n := g_n (g_B (sA (y1.1 289) (y1.1 289 3)) (bS (y1.1 289 2)) v p) 8) (by omega) with ⟨k, k1, rfl, k3⟩ | ⟨k1, k3⟩
    · rw [k3, if_neg (nI_pos (by omega)), if_neg (nI_ge k1 (by omega)), if_pos (in_ok (by omega) (by decide)), cl (by omega), if_neg (show ¬ (1 : Int32) = 0 by decide), show (8 : Int32) * nI (8 * a + v) = nI (8 * (8 * a + v)) from pk_mul 8 _, nI_add, if_pos (in_ok (by omega) (by decide)), cl (by omega), r2.2 k k1, en.2.2.2.2.2.1 k k1, fg k k1]
      exact ⟨_, x2, y1, rfl, rfl, np, rt, i2⟩
    · rw [k3, if_pos (show (0 : Int32) = 0 from rfl)]
      rcases cin_cases p3 (n := g_n (g_B (sA (y1.1 289) (y1.1 289 3)) (bS (y1.1 289 2)) v p) 8) (by omega) with ⟨k, j1, j2, _⟩ | ⟨_, j | ⟨j1, j2⟩⟩
      · exact absurd j2 (k1 k j1)
      · rw [if_pos j]
        exact ⟨_, x2, y1, rfl, rfl, np, rt, i2⟩
      · rw [if_neg j1, if_pos j2]
        exact ⟨_, x2, y1, rfl, rfl, np, rt, i2⟩
  · rw [e1, Option.bind_some, e2, Option.bind_some]
    exact ⟨_, x1, y1, rfl, rfl, np, rt, i1⟩
theorem wr_low {A : Nat → Nat → Prop} {V : Nat → Prop} {c r : Nat} {i : Int32} (hi : ¬ (-1 : Int32) ≤ i) : ∀ d v h res, h + d < 2 ^ 31 → wr A V c r i d v h res → res = -1
  | 0, _, h, res, _, k => by
    have k : res = if i = -1 then nI h else -1 := k
    rw [k, if_neg (fun z => hi (by rw [z]; exact Int32.le_refl _))]
  | d + 1, v, h, res, hb, ⟨u, _, k⟩ => by
    rcases k with ⟨k, _⟩ | ⟨_, k⟩
    · exact absurd (Int32.le_of_lt (k ▸ m1_lt (by omega))) hi
    · exact wr_low hi d u (h + 1) res (by omega) k
theorem st_way (h : IV np rt x y) : sam (f_X10_way p1 p2 p3 p4 x) (f_X11_way p1 p2 p3 p4 y) := by
  unfold f_X10_way f_X11_way
  obtain ⟨r0, x1, y1, e1, i1, ⟨a, v, n, p, t, f, rd, bl, a8, v8, rfl, rfl, rfl, z8, ct, e2, ko, en⟩ | ⟨rfl, e2⟩⟩ := two_way h p1 p2
  · have n8 := h.1.1.1
    have hN := sN_learnt i1.1.1
    rw [e1, Option.bind_some, e2, Option.bind_some]
    dsimp only
    rcases which_c p3 with ⟨c, hc, rfl, _, k1, _, k2⟩ | ⟨_, _, k1, _, k2⟩
    · obtain ⟨d, hd⟩ := wy_ex hN.2.1 (c := c) en.1.1
      have d7 := wy_le hN.2.1 hd
      have dF : d < mF := Nat.lt_of_le_of_lt d7 (by decide)
      obtain ⟨res, g1, g2⟩ := along_L hN (show a < 8 by omega) hc p4 x1 ct d v 0 mF hd (by omega) dF
      rw [k1, k2, if_neg (by decide), if_neg (by decide), f_X7_along]
      rw [nI_0] at g1
      rw [g1, Option.bind_some, if_neg (nI_pos (by omega)), if_neg (by decide)]
      by_cases c4 : (-1 : Int32) ≤ p4
      · obtain ⟨res', g3, g4⟩ := way_L p4 y1 i1.1.1 ko (show a < 8 by omega) hc d v 0 mF hd (by omega) dF
        rw [nI_0] at g3
        rw [if_pos c4, g3, wr_un hN.2.1 d v 0 res res' g2 g4]
        exact ⟨_, x1, y1, rfl, rfl, np, rt, i1⟩
      · rw [if_neg c4, wr_low c4 d v 0 res (by omega) g2]
        exact ⟨_, x1, y1, rfl, rfl, np, rt, i1⟩
    · rw [k1, k2, if_pos rfl, if_neg (nI_pos (by omega)), if_pos rfl]
      exact ⟨_, x, y1, rfl, rfl, np, rt, IV_yk h (placeOf_F e2 h).1 knk (placeOf_F e2 h).2⟩
  · rcases which_c p3 with ⟨c, hc, rfl, _, k1, _, k2⟩ | ⟨_, _, k1, _, k2⟩
    · rw [k1, if_neg (by decide), e1, Option.bind_some, e2, Option.bind_some]
      exact ⟨_, x1, y1, rfl, rfl, np, rt, i1⟩
    · rw [k1, if_pos rfl, e2, Option.bind_some]
      exact ⟨_, x, y1, rfl, rfl, np, rt, IV_yk h (placeOf_F e2 h).1 knk (placeOf_F e2 h).2⟩
theorem st_dear (h : IV np rt x y) : sam (f_X10_dear p1 p2 p3 x) (f_X11_dear p1 p2 p3 y) := by
  unfold f_X10_dear f_X11_dear
  obtain ⟨r0, x1, y1, e1, i1, ⟨a, v, n, p, t, f, rd, bl, a8, v8, rfl, rfl, rfl, z8, ct, e2, ko, en⟩ | ⟨rfl, e2⟩⟩ := two_way h p1 p2
  · have n8 := h.1.1.1
    have hN := sN_learnt i1.1.1
    rw [e1, Option.bind_some, e2, Option.bind_some]
    dsimp only
    rcases which_c p3 with ⟨c, hc, rfl, _, k1, _, k2⟩ | ⟨_, _, k1, _, k2⟩
    · obtain ⟨d, hd⟩ := wy_ex hN.2.1 (c := c) en.1.1
      have d7 := wy_le hN.2.1 hd
      have dF : d < mF := Nat.lt_of_le_of_lt d7 (by decide)
      obtain ⟨res, g1, g2⟩ := priceAlong_L hN (show a < 8 by omega) hc x1 ct (fun l hl => (i1.1.2.2.2.2.2.2.2.2.2.2.2 l hl).2.2.1) d v 0 mF 0 hd (by omega) dF
      obtain ⟨res', g3, g4⟩ := dear_L y1 i1.1.1 ko (show a < 8 by omega) hc d v mF 0 hd dF
      rw [k1, k2, if_neg (by decide), if_neg (by decide), f_X7_priceAlong]
      rw [nI_0] at g1
      rw [g1, Option.bind_some, if_neg (nI_pos (by omega)), if_neg (by decide), g3, wc_un hN d v 0 res res' g2 g4]
      exact ⟨_, x1, y1, rfl, rfl, np, rt, i1⟩
    · rw [k1, k2, if_pos rfl, if_neg (nI_pos (by omega)), if_pos rfl]
      exact ⟨_, x, y1, rfl, rfl, np, rt, IV_yk h (placeOf_F e2 h).1 knk (placeOf_F e2 h).2⟩
  · rcases which_c p3 with ⟨c, hc, rfl, _, k1, _, k2⟩ | ⟨_, _, k1, _, k2⟩
    · rw [k1, if_neg (by decide), e1, Option.bind_some, e2, Option.bind_some]
      exact ⟨_, x1, y1, rfl, rfl, np, rt, i1⟩
    · rw [k1, if_pos rfl, e2, Option.bind_some]
      exact ⟨_, x, y1, rfl, rfl, np, rt, IV_yk h (placeOf_F e2 h).1 knk (placeOf_F e2 h).2⟩
/-- what the two ways share, of both -/
theorem shared_two {a v : Nat} (i1 : IV np rt x y) (ha : a < 8) (ct : ct_r x.1 (y.1 289) (y.1 289 2) (y.1 289 3) a) (ko : k_ok y.1) (h1 : g_C (sA (y.1 289) (y.1 289 3)) (bS (y.1 289 2)) v a) (h2 : v ≠ a) : ∃ r q2 q3, f_X7_shared (nI a) (nI v) x = some r ∧ f_X11_onWay (nI a) (nI v) 0 y = some q2 ∧ f_X11_onWay (nI a) (nI v) 1 y = some q3 ∧ q2 &&& q3 = r := by
  have hN := sN_learnt i1.1.1
  obtain ⟨r, g1, g2⟩ := shared_ok hN ha x ct h1
  obtain ⟨q2, f1, f2⟩ := onWay_ok (c := 0) y i1.1.1 ko ha (by decide) h1 h2
  obtain ⟨q3, f3, f4⟩ := onWay_ok (c := 1) y i1.1.1 ko ha (by decide) h1 h2
  rw [nI_0] at f1
  rw [show nI 1 = (1 : Int32) by decide] at f3
  refine ⟨r, q2, q3, g1, f1, f3, b_eq_iff fun i => ?_⟩
  rw [b_and, Bool.and_eq_true, f2 i, f4 i, g2 i]
  unfold bo
  constructor
  · rintro ⟨⟨k1, k2⟩, k3, k4⟩
    refine ⟨k1, fun c hc => ?_⟩
    have t : c = 0 ∨ c = 1 := by omega
    rcases t with rfl | rfl
    · exact k2
    · exact k4
  · rintro ⟨k1, k2⟩
    exact ⟨⟨k1, k2 0 (by decide)⟩, k1, k2 1 (by decide)⟩
theorem st_both (h : IV np rt x y) : sam (f_X10_both p1 p2 x) (f_X11_both p1 p2 y) := by
  unfold f_X10_both f_X11_both
  obtain ⟨r0, x1, y1, e1, i1, ⟨a, v, n, p, t, f, rd, bl, a8, v8, rfl, rfl, rfl, z8, ct, e2, ko, en⟩ | ⟨rfl, e2⟩⟩ := two_way h p1 p2
  · have n8 := h.1.1.1
    obtain ⟨r, q2, q3, g1, g2, g3, g4⟩ := shared_two i1 (show a < 8 by omega) ct ko en.1.1 en.1.2.1
    rw [e1, Option.bind_some, e2, Option.bind_some]
    dsimp only
    rw [if_neg (by decide), g1, Option.bind_some, if_pos (nI_pos' (by omega)), g2, Option.bind_some, g3, Option.bind_some, g4]
    exact ⟨_, x1, y1, rfl, rfl, np, rt, i1⟩
  · rw [e1, Option.bind_some, e2, Option.bind_some]
    exact ⟨_, x1, y1, rfl, rfl, np, rt, i1⟩
theorem st_ear (h : IV np rt x y) : sam (f_X10_ear p1 p2 p3 p4 x) (f_X11_ear p1 p2 p3 p4 y) := by
  unfold f_X10_ear f_X11_ear
  obtain ⟨r0, x1, y1, e1, i1, ⟨a, v, n, p, t, f, rd, bl, a8, v8, rfl, rfl, rfl, z8, ct, e2, ko, en⟩ | ⟨rfl, e2⟩⟩ := two_way h p1 p2
  · have n8 := h.1.1.1
    have hN := sN_learnt i1.1.1
    have p8 := ent_8 hN.2.1 en
    rw [e1, Option.bind_some, e2, Option.bind_some]
    dsimp only
    rw [if_neg (by decide), ownOf_ok (by omega) (by omega), Option.bind_some, headOf_ok (by omega) (by omega), Option.bind_some, en.2.1.1, en.2.1.2.1]
    have hb := bC_of (C := fun p' q' => sA (y1.1 289) (y1.1 289 3) p' q' ∧ g_B (sA (y1.1 289) (y1.1 289 3)) (bS (y1.1 289 2)) v p p' ∧ g_B (sA (y1.1 289) (y1.1 289 3)) (bS (y1.1 289 2)) v p q') hN p8.1 p8.2.2.2 (fun p' q' => Iff.rfl)
    obtain ⟨x2, Lo, I', R, g1, g2, g3, g4, g5, g6⟩ := trace_ok hb en.1.2.2.2.2.1 p8.2.1 x1 (i1.2.2.2.2.2.2.1 z8).1.2.2.1
    obtain ⟨y2, R', f1, f2, f3, f4, f5, f6, f7⟩ := laysEars_ok (k := 8 * a + v) (by omega) y1 i1.1.1 en.2.2.1 en.2.2.2.1 en.1.2.2.2.2.1 p8.1 p8.2.2.2 (fun p' q' => Iff.rfl) p8.2.1
    have eR := er_un 20 _ _ _ _ _ g2 f2
    subst eR
    have i2 : IV np rt x2 y2 := IV_yF (IV_xF i1 g4 (fun q c z => by unfold er_W at z; unfold scX; omega)) f7 (fun q c z => by unfold ef_W ee_W at z; unfold scY; omega)
    obtain ⟨res, j1, j2⟩ := ear_y y2 f3 f4 f5 f6 p3 p4
    rw [g1, Option.bind_some, if_pos (nI_pos' (by omega)), f1, Option.bind_some, j1]
    by_cases c3 : p3 = -1
    · rw [if_pos c3, g3.2.1]
      rcases j2 with ⟨_, j2⟩ | ⟨j2, _⟩
      · exact ⟨_, x2, y2, rfl, by rw [j2], np, rt, i2⟩
      · exact absurd c3 j2
    · obtain ⟨res', k1, k2⟩ := earAt_ok x2 g3 g5 g6 p3 p4
      rw [if_neg c3, k1, Option.bind_some]
      exact ⟨_, x2, y2, rfl, by rw [ear_B_un f6 (fun P hP => by have := f5 P hP; omega) j2 (Or.inr ⟨c3, k2⟩)], np, rt, i2⟩
  · rw [e1, Option.bind_some, e2, Option.bind_some]
    exact ⟨_, x1, y1, rfl, rfl, np, rt, i1⟩
end SG
