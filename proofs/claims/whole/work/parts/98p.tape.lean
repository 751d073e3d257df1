/-! ===== calls feed, back, place ===== -/
section SX
variable {np rt : Nat} {x x' : mX} {y y' : mY} {p1 p2 p3 p4 p5 : Int32}
/-- the tapes, b bytes -/
def tpR (b : Nat) (x : mX) (y : mY) : Prop := x.1 1 0 = nI b ∧ y.1 279 2 = nI b ∧ ∀ i, i < b → x.1 7 i = y.1 280 i
def tpX (q c : Nat) : Prop := (q = 1 ∧ c = 0) ∨ q = 7
def tpY (q c : Nat) : Prop := (q = 279 ∧ c = 2) ∨ q = 280
theorem byte_1 {b n : Nat} {a : Int32} (w : Int32) (hb : b < 2000) (ha : ¬ a < 0) (h : tpR b x y) : ∃ x1 y1, f_X5_append_L3 w (n + 1) a x = f_X5_append_L3 w n (a + (-8 : Int32)) x1 ∧ f_X11_lays_L3 w (n + 1) a y = f_X11_lays_L3 w n (a + (-8 : Int32)) y1 ∧ tpR (b + 1) x1 y1 ∧ xF tpX x x1 ∧ yF tpY y y1 := by
  rw [f_X5_append_L3, f_X11_lays_L3, if_neg ha, if_neg ha, h.1, h.2.1, if_neg (nI_pos (by omega)), if_neg (show ¬ (2000 : Int32) ≤ nI b from nI_ge (b := 2000) hb (by decide)), if_pos (in_ok hb (by decide)), if_pos (in_ok hb (by decide)), m_let, m_let, m_let, m_let, cl (by omega)]
  refine ⟨_, _, rfl, rfl, ⟨?_, ?_, fun i hi => ?_⟩, xF_set (xF_set (xF_rf _ _) (Or.inr rfl)) (Or.inl ⟨rfl, rfl⟩), yF_set (yF_set (yF_rf _ _) (Or.inr rfl)) (Or.inl ⟨rfl, rfl⟩)⟩
  · rw [xs_eq, xs_ne (by decide), h.1, nI_1]
  · rw [ys_eq, ys_ne (by decide), h.2.1, nI_1]
  · rw [xs_ne (by decide), ys_ne (by decide)]
    by_cases e : i = b
    · subst e
      rw [xs_eq, ys_eq]
    · rw [xs_ec e, ys_ec e]
      exact h.2.2 i (by omega)
theorem word_1 {b : Nat} (w : Int32) (hb : b + 4 ≤ 2000) (h : tpR b x y) : ∃ x1 y1, f_X5_append w x = some x1 ∧ f_X11_lays w y = some y1 ∧ tpR (b + 4) x1 y1 ∧ xF tpX x x1 ∧ yF tpY y y1 := by
  unfold f_X5_append f_X11_lays
  obtain ⟨x1, y1, a1, a2, a3, a4, a5⟩ := byte_1 (n := 99999) (a := 24) w (show b < 2000 by omega) (by decide) h
  obtain ⟨x2, y2, b1, b2, b3, b4, b5⟩ := byte_1 (n := 99998) (a := 24 + (-8)) w (show b + 1 < 2000 by omega) (by decide) a3
  obtain ⟨x3, y3, c1, c2, c3, c4, c5⟩ := byte_1 (n := 99997) (a := 24 + (-8) + (-8)) w (show b + 1 + 1 < 2000 by omega) (by decide) b3
  obtain ⟨x4, y4, d1, d2, d3, d4, d5⟩ := byte_1 (n := 99996) (a := 24 + (-8) + (-8) + (-8)) w (show b + 1 + 1 + 1 < 2000 by omega) (by decide) c3
  have ex : f_X5_append_L3 w 99996 (24 + (-8) + (-8) + (-8) + (-8)) x4 = some x4 := by
    show f_X5_append_L3 w (99995 + 1) _ x4 = _
    rw [f_X5_append_L3, if_pos (by decide)]
  have ey : f_X11_lays_L3 w 99996 (24 + (-8) + (-8) + (-8) + (-8)) y4 = some y4 := by
    show f_X11_lays_L3 w (99995 + 1) _ y4 = _
    rw [f_X11_lays_L3, if_pos (by decide)]
  exact ⟨x4, y4, a1.trans (b1.trans (c1.trans (d1.trans ex))), a2.trans (b2.trans (c2.trans (d2.trans ey))), d3, xF_tr a4 (xF_tr b4 (xF_tr c4 d4)), yF_tr a5 (yF_tr b5 (yF_tr c5 d5))⟩
/-- the tape changed, nothing else -/
theorem IV_tp (h : IV np rt x y) {b : Nat} (hb : b ≤ 2000) (hx : xF tpX x x') (hy : yF tpY y y') (ht : tpR b x' y') : IV np rt x' y' := by
  obtain ⟨h1, h2, h3, h4, h5, h6, h7, h8, h9⟩ := h
  have rx : ∀ q, q ≠ 1 → q ≠ 7 → x'.1 q = x.1 q := fun q q1 q2 => xF_row hx (fun c => by unfold tpX; omega)
  have ry : ∀ q, q ≠ 279 → q ≠ 280 → y'.1 q = y.1 q := fun q q1 q2 => yF_row hy (fun c => by unfold tpY; omega)
  have es := ry 289 (by decide) (by decide)
  refine ⟨?_, ?_, ?_, ?_, ?_, ?_, ?_, ?_, ?_⟩
  · rw [es]
    exact hsR_cg (fun q q1 q2 => rx q (by omega) (by omega)) h1
  · exact iR_mo (hy.1 279 17 (by unfold tpY; omega)) (hy.1 279 18 (by unfold tpY; omega)) h2
  · exact iH_mo (fun q q1 q2 => rx q (by omega) (by omega)) (hy.1 279 26 (by unfold tpY; omega)) (hy.1 279 27 (by unfold tpY; omega)) (ry 290 (by decide) (by decide)) h3
  · exact iS_mo (hx.1 0 4 (by unfold tpX; omega)) (fun q q1 q2 => rx q (by omega) (by omega)) (ry 291 (by decide) (by decide)) (ry 292 (by decide) (by decide)) h4
  · obtain ⟨b', b1, b2, b3, b4, b5⟩ := h5
    exact ⟨b, hb, ht.1, ht.2.1, ht.2.2, by rw [hx.1 1 1 (by unfold tpX; omega), hy.1 279 16 (by unfold tpY; omega)]; exact b5⟩
  · rw [es]
    exact cP_mo (hx.1 0 6 (by unfold tpX; omega)) (fun q q1 q2 => rx q (by omega) (by omega)) (hx.1 256 0 (by unfold tpX; omega)) (hx.1 256 2 (by unfold tpX; omega)) (rx 257 (by decide) (by decide)) h6
  · rw [es]
    exact cL_mo (hx.1 0 8 (by unfold tpX; omega)) (fun q q1 q2 => rx q (by omega) (by omega)) (hx.1 234 2 (by unfold tpX; omega)) (fun q q1 q2 => rx q (by omega) (by omega)) h7
  · exact kq_mo (hy.1 279 30 (by unfold tpY; omega)) (fun q hq => ry q (by omega) (by omega)) h8
  · unfold yKs
    rw [hy.2]
    exact h9
theorem st_feed (h : IV np rt x y) : sam (f_X10_feed p1 p2 p3 p4 p5 x) (f_X11_feed p1 p2 p3 p4 p5 y) := by
  unfold f_X10_feed f_X11_feed f_X5_hasRoom
  obtain ⟨b, b1, b2, b3, b4, b5⟩ := h.2.2.2.2.1
  rw [b2, b3, show nI b + 20 = nI (b + 20) from nI_add b 20]
  by_cases c : b + 20 ≤ 2000
  · rw [if_neg (show ¬ (2000 : Int32) < nI (b + 20) from nI_nlt (a := 2000) c (by decide)), if_neg (show ¬ (1 : Int32) = 0 by decide), if_pos (show nI (b + 20) ≤ (2000 : Int32) from nI_le (b := 2000) c (by decide))]
    obtain ⟨x1, y1, a1, a2, a3, a4, a5⟩ := word_1 p1 (show b + 4 ≤ 2000 by omega) (show tpR b x y from ⟨b2, b3, b4⟩)
    obtain ⟨x2, y2, c1, c2, c3, c4, c5⟩ := word_1 p2 (show b + 4 + 4 ≤ 2000 by omega) a3
    obtain ⟨x3, y3, d1, d2, d3, d4, d5⟩ := word_1 p3 (show b + 4 + 4 + 4 ≤ 2000 by omega) c3
    obtain ⟨x4, y4, e1, e2, e3, e4, e5⟩ := word_1 p4 (show b + 4 + 4 + 4 + 4 ≤ 2000 by omega) d3
    obtain ⟨x5, y5, f1, f2, f3, f4, f5⟩ := word_1 p5 (show b + 4 + 4 + 4 + 4 + 4 ≤ 2000 by omega) e3
    rw [a1, a2, Option.bind_some, Option.bind_some, c1, c2, Option.bind_some, Option.bind_some, d1, d2, Option.bind_some, Option.bind_some, e1, e2, Option.bind_some, Option.bind_some, f1, f2, Option.bind_some, Option.bind_some, f3.1, f3.2.1]
    exact ⟨_, x5, y5, rfl, rfl, np, rt, IV_tp h (show b + 4 + 4 + 4 + 4 + 4 ≤ 2000 by omega) (xF_tr a4 (xF_tr c4 (xF_tr d4 (xF_tr e4 f4)))) (yF_tr a5 (yF_tr c5 (yF_tr d5 (yF_tr e5 f5)))) f3⟩
  · rw [if_pos (show (2000 : Int32) < nI (b + 20) from nI_lt (a := 2000) (by omega) (by omega)), if_pos rfl, if_neg (show ¬ nI (b + 20) ≤ (2000 : Int32) from nI_ge (a := 2000) (by omega) (by omega))]
    exact ⟨_, x, y, rfl, rfl, np, rt, h⟩
theorem nI_sb {b n : Nat} (h : n ≤ b) : nI b - nI n = nI (b - n) := by
  have e : nI b = nI (b - n) + nI n := by rw [nI_add]; congr 1; omega
  rw [e, Int32.add_sub_cancel]
theorem st_back (h : IV np rt x y) : sam (f_X10_back p1 x) (f_X11_back p1 y) := by
  unfold f_X10_back f_X11_back
  obtain ⟨b, b1, b2, b3, b4, b5⟩ := h.2.2.2.2.1
  rw [b2, b3]
  by_cases c : p1 < 0
  · rw [if_pos c, if_pos c]
    exact ⟨_, x, y, rfl, rfl, np, rt, h⟩
  · rw [if_neg c, if_neg c]
    obtain ⟨n, n1, rfl⟩ := nI_of c
    by_cases c2 : n ≤ b
    · have le : nI n ≤ nI b := nI_le c2 (by omega)
      rw [if_pos le, if_pos le, m_let, m_let, nI_sb c2, xs_eq, ys_eq]
      refine ⟨_, _, _, rfl, rfl, np, rt, IV_tp h (show b - n ≤ 2000 by omega) (xF_set (xF_rf _ _) (Or.inl ⟨rfl, rfl⟩)) (yF_set (yF_rf _ _) (Or.inl ⟨rfl, rfl⟩)) ⟨xs_eq _ _ _ _, ys_eq _ _ _ _, fun i hi => ?_⟩⟩
      rw [xs_ne (by decide), ys_ne (by decide)]
      exact b4 i (by omega)
    · have nle : ¬ nI n ≤ nI b := nI_ge (by omega) (by omega)
      rw [if_neg nle, if_neg nle]
      exact ⟨_, x, y, rfl, rfl, np, rt, h⟩
theorem st_place (h : IV np rt x y) : sam (some (f_X10_place x, x)) (some (f_X11_place y, y)) := by
  obtain ⟨b, b1, b2, b3, b4, b5⟩ := h.2.2.2.2.1
  exact ⟨_, x, y, rfl, by unfold f_X10_place f_X11_place; rw [b5], np, rt, h⟩
end SX
