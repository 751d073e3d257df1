/-! ===== calls lay, learn ===== -/
section SV
variable {np rt : Nat} {x x' : mX} {y y' : mY} {σ σ' : Nat → Int32} {P L : Int32} {p1 p2 p3 : Int32}
theorem st_lay (h : IV np rt x y) : sam (f_X10_lay p1 p2 p3 x) (f_X11_lay p1 p2 p3 y) := by
  unfold f_X10_lay f_X11_lay
  have n8 := h.1.1.1
  have m16 := h.1.1.2.2.1
  have one : ¬ (1 : Int32) = 0 := by decide
  have done : ∀ r : Int32, sam (some (r, x)) (some (r, y)) := fun r => ⟨r, x, y, rfl, rfl, np, rt, h⟩
  rcases two_post h p1 with ⟨a, a1, rfl, a2, a3⟩ | ⟨a2, a3⟩
  · rw [a2, a3, if_neg one, Option.bind_some, if_neg one]
    rcases two_post h p2 with ⟨b, b1, rfl, b2, b3⟩ | ⟨b2, b3⟩
    · rw [b2, b3, if_neg one, Option.bind_some, if_neg one]
      by_cases c1 : a = b
      · rw [if_pos (by rw [c1]), if_pos (by rw [c1])]
        exact done _
      have nab : ¬ nI a = nI b := fun z => c1 ((nI_eq (by omega) (by omega)).mp z)
      rw [if_neg nab, if_neg nab]
      rcases cost_c p3 with ⟨v, v1, v2, rfl, v3, v4⟩ | ⟨v3, v4⟩
      · rw [v3, v4, if_neg one, if_neg one, h.1.2.2.1, h.1.1.2.1]
        by_cases c2 : sm (y.1 289) = 16
        · rw [c2, if_pos (by decide), if_pos (by decide)]
          exact done _
        rw [if_neg (show ¬ (16 : Int32) ≤ nI (sm (y.1 289)) from nI_ge (b := 16) (by omega) (by decide)), if_neg (show ¬ nI (sm (y.1 289)) = (16 : Int32) from fun z => c2 ((nI_eq (b := 16) (by omega) (by decide)).mp z))]
        rcases between_x (a := a) (b := b) x h.1.2 h.1.1 with ⟨l, l1, l2, l3⟩ | ⟨l1, l3⟩
        · have t := between_at y h.1.1 (show a < 8 by omega) (show b < 8 by omega) l1 l2
          rw [l3, t, Option.bind_some, Option.bind_some, if_neg (nI_m1 (by omega)), if_neg (nI_pos (by omega))]
          exact done _
        · have t : f_X11_between (nI a) (nI b) y = some (-1) := by
            rcases between_y (a := a) (b := b) y h.1.1 with ⟨l, k1, k2, _⟩ | ⟨_, k⟩
            · exact absurd k2 (l1 l k1)
            · exact k
          rw [l3, t, Option.bind_some, Option.bind_some, if_pos rfl, if_pos (show (-1 : Int32) < 0 by decide)]
          obtain ⟨x1, y1, e1, e2, i1, w1, w2⟩ := two_keep h
          have es : y1.1 289 = y.1 289 := yF_row w2 (fun c => by unfold mkW; omega)
          have hW := i1.1.1
          obtain ⟨r0, r1, r2, r3, r4, r5, r6, r7, r8, r9, rl⟩ := i1.1.2
          have e4 : y1.1 289 4 = nI (sm (y1.1 289)) := hW.2.1
          obtain ⟨m, hm⟩ : ∃ m, sm (y1.1 289) = m := ⟨_, rfl⟩
          have m16' : m < 16 := by rw [← hm, es]; omega
          rw [hm] at e4
          obtain ⟨x2, g1, g2, g3, g4, g5, g6, g7⟩ := add_ok x1 m16' (r1.trans e4) (nI a) (nI b) (nI v)
          rw [e1, e2, Option.bind_some, Option.bind_some, g1, Option.bind_some, m_let, e4, a8, a24, a40, a56, if_pos (in_ok (by omega) (by decide)), m_let, if_pos (in_ok (by omega) (by decide)), m_let, if_pos (in_ok (by omega) (by decide)), m_let, if_pos (in_ok (by omega) (by decide)), m_let, m_let, m_let, cl (show 8 + m < 100000 by omega), cl (show 24 + m < 100000 by omega), cl (show 40 + m < 100000 by omega), cl (show 56 + m < 100000 by omega)]
          have q1 : (m_xs x2 0 6 1).1 14 1 - 1 = nI m := by rw [xs_ne (by decide), g3, nI_pred]
          rw [q1]
          refine ⟨_, _, _, rfl, rfl, np, rt, ?_⟩
          generalize hy' : m_ys (m_ys (m_ys (m_ys (m_ys (m_ys y1 289 (8 + m) (nI a)) 289 (24 + m) (nI b)) 289 (40 + m) (nI v)) 289 (56 + m) 0) 289 1 _) 289 4 _ = y'
          have o : ∀ c, c ≠ 1 → c ≠ 4 → c ≠ 8 + m → c ≠ 24 + m → c ≠ 40 + m → c ≠ 56 + m → y'.1 289 c = y1.1 289 c := fun c c1 c2 c3 c4 c5 c6 => by rw [← hy', ys_ec c2, ys_ec c1, ys_ec c6, ys_ec c5, ys_ec c4, ys_ec c3]
          have o1 : y'.1 289 1 = y1.1 289 1 ||| ((1 : Int32) <<< (nI m &&& 31)) := by rw [← hy', ys_ec (by decide), ys_eq, ys_ec (by omega), ys_ec (by omega), ys_ec (by omega), ys_ec (by omega)]
          have o4 : y'.1 289 4 = nI (m + 1) := by rw [← hy', ys_eq, ys_ec (by decide), ys_ec (by omega), ys_ec (by omega), ys_ec (by omega), ys_ec (by omega), e4, nI_1]
          have o8 : y'.1 289 (8 + m) = nI a := by rw [← hy', ys_ec (by omega), ys_ec (by omega), ys_ec (by omega), ys_ec (by omega), ys_ec (by omega), ys_eq]
          have o24 : y'.1 289 (24 + m) = nI b := by rw [← hy', ys_ec (by omega), ys_ec (by omega), ys_ec (by omega), ys_ec (by omega), ys_eq]
          have o40 : y'.1 289 (40 + m) = nI v := by rw [← hy', ys_ec (by omega), ys_ec (by omega), ys_ec (by omega), ys_eq]
          have o56 : y'.1 289 (56 + m) = 0 := by rw [← hy', ys_ec (by omega), ys_ec (by omega), ys_eq]
          have oq : ∀ q, q ≠ 289 → y'.1 q = y1.1 q := fun q hq => by rw [← hy', ys_ne hq, ys_ne hq, ys_ne hq, ys_ne hq, ys_ne hq, ys_ne hq]
          have o2 : y'.2 = y1.2 := by rw [← hy']; rfl
          have ends : ∀ l, l < m → y'.1 289 (8 + l) = y1.1 289 (8 + l) ∧ y'.1 289 (24 + l) = y1.1 289 (24 + l) ∧ y'.1 289 (40 + l) = y1.1 289 (40 + l) := fun l hl => ⟨o _ (by omega) (by omega) (by omega) (by omega) (by omega) (by omega), o _ (by omega) (by omega) (by omega) (by omega) (by omega) (by omega), o _ (by omega) (by omega) (by omega) (by omega) (by omega) (by omega)⟩
          obtain ⟨sm', sw'⟩ := sW_add (σ' := y'.1 289) hW hm m16' a1 b1 c1 v1 v2 (by rw [es] at hm ⊢; rw [← hm]; exact l1) (o 0 (by omega) (by omega) (by omega) (by omega) (by omega) (by omega)) (o 2 (by omega) (by omega) (by omega) (by omega) (by omega) (by omega)) (o 3 (by omega) (by omega) (by omega) (by omega) (by omega) (by omega)) o4 o8 o24 o40 ends
          have eE : eEnd (y1.1 289) (y'.1 289) (y1.1 289 3) := fun l hl => by
            have t := (hW.2.2.2.2.2.1 l hl).1
            rw [hm] at t
            exact ⟨(ends l t).1, (ends l t).2.1⟩
          refine IV_st i1 (fun q c hq => ?_) (fun q c hq => ?_) (by rw [o2]) ⟨sw', ?_⟩ (fun z => ?_) ?_ ?_
          · unfold sX at hq
            by_cases e0 : q = 0
            · subst e0
              rw [xs_ec (by omega), g2 0 (by decide)]
            · rw [xs_ne e0, g2 q (by omega)]
          · unfold sY at hq
            rw [oq q (by omega)]
          · unfold sR
            rw [sm', xs_ne (show 14 ≠ 0 by decide), g5 0 (by decide) (by decide), g3, g5 2 (by decide) (by decide), g4, g5 4 (by decide) (by decide), g5 5 (by decide) (by decide), g5 6 (by decide) (by decide), g5 7 (by decide) (by decide), g5 8 (by decide) (by decide), g5 9 (by decide) (by decide), o4, o1, o 0 (by omega) (by omega) (by omega) (by omega) (by omega) (by omega), o 2 (by omega) (by omega) (by omega) (by omega) (by omega) (by omega), o 3 (by omega) (by omega) (by omega) (by omega) (by omega) (by omega), o 5 (by omega) (by omega) (by omega) (by omega) (by omega) (by omega), o 6 (by omega) (by omega) (by omega) (by omega) (by omega) (by omega), o 7 (by omega) (by omega) (by omega) (by omega) (by omega) (by omega), r3]
            refine ⟨r0, rfl, r2, rfl, r4, r5, r6, r7, r8, r9, fun l hl => ?_⟩
            rw [xs_ne (show 14 + 1 ≠ 0 by decide), xs_ne (show 14 + 2 ≠ 0 by decide), xs_ne (show 14 + 3 ≠ 0 by decide), xs_ne (show 14 + 4 ≠ 0 by decide)]
            by_cases e : l = m
            · subst e
              rw [o8, o24, o40, o56]
              exact g6
            · obtain ⟨u1, u2, u3, u4⟩ := g7 l e
              rw [(ends l (by omega)).1, (ends l (by omega)).2.1, (ends l (by omega)).2.2, o (56 + l) (by omega) (by omega) (by omega) (by omega) (by omega) (by omega)]
              have := rl l (by omega)
              exact ⟨u1.trans this.1, u2.trans this.2.1, u3.trans this.2.2.1, u4.trans this.2.2.2⟩
          · rw [xs_eq] at z
            exact absurd z (by decide)
          · refine cL_sg (σ := y1.1 289) (cL_mo (x := x1) ?_ (fun q q1 q2 => ?_) ?_ (fun q q1 q2 => ?_) i1.2.2.2.2.2.2.1) (o 2 (by omega) (by omega) (by omega) (by omega) (by omega) (by omega)) (o 3 (by omega) (by omega) (by omega) (by omega) (by omega) (by omega)) eE
            · rw [xs_ec (by decide), g2 0 (by decide)]
            · rw [xs_ne (by omega), g2 q (by omega)]
            · rw [xs_ne (by decide), g2 234 (by decide)]
            · rw [xs_ne (by omega), g2 q (by omega)]
          · exact kq_sg i1.2.2.2.2.2.2.2.1 (fun q q1 q2 => oq q (by omega)) (by rw [oq 279 (by decide)]) (o 2 (by omega) (by omega) (by omega) (by omega) (by omega) (by omega)) (o 3 (by omega) (by omega) (by omega) (by omega) (by omega) (by omega)) eE
      · rw [v3, v4, if_pos rfl, if_pos rfl]
        exact done _
    · rw [b2, b3, if_pos rfl, Option.bind_some, if_pos rfl]
      exact done _
  · rw [a2, a3, if_pos rfl, Option.bind_some, if_pos rfl]
    exact done _
/-- what was learnt is set -/
theorem learn_two (i1 : IV np rt x y) {V : Int32} (hV : sL (y.1 289) V) : ∃ y2, f_X11_learns y = some y2 ∧ Inv (m_xs (m_xs (m_xs x 14 5 (x.1 14 2)) 14 6 V) 0 8 1) y2 := by
  have hW := i1.1.1
  obtain ⟨w1, w2, w3, w4, w5, w6, w7, w8, w9⟩ := hW
  obtain ⟨r0, r1, r2, r3, r4, r5, r6, r7, r8, r9, rl⟩ := i1.1.2
  unfold f_X11_learns
  rw [m_let]
  have oA : ∀ c, c ≠ 2 → (m_ys y 289 2 (y.1 289 0)).1 289 c = y.1 289 c := fun c hc => ys_ec hc
  have smA : sm ((m_ys y 289 2 (y.1 289 0)).1 289) = sm (y.1 289) := sm_e (oA 4 (by decide))
  obtain ⟨V', v1, v2⟩ := netLinks_w (np := np) (m_ys y 289 2 (y.1 289 0)) w1 (by rw [smA, oA 4 (by decide)]; exact w2) (by rw [smA]; exact w3) (by rw [smA]; exact fun l hl => by rw [oA _ (by omega), oA _ (by omega)]; exact w7 l hl)
  have vA : sL ((m_ys y 289 2 (y.1 289 0)).1 289) V := sL_sg (σ := y.1 289) (oA 0 (by decide)) (oA 1 (by decide)) (oA 4 (by decide)) (fun l hl => ⟨oA _ (by omega), oA _ (by omega)⟩) hV
  rw [v1, Option.bind_some, sL_un v2 vA, m_let, m_let]
  refine ⟨_, rfl, np, rt, ?_⟩
  generalize hy' : m_ys (m_ys (m_ys y 289 2 (y.1 289 0)) 289 3 V) 279 30 0 = y'
  have o : ∀ c, c ≠ 2 → c ≠ 3 → y'.1 289 c = y.1 289 c := fun c c2 c3 => by rw [← hy', ys_ne (by decide), ys_ec c3, ys_ec c2]
  have o2 : y'.1 289 2 = y.1 289 0 := by rw [← hy', ys_ne (by decide), ys_ec (by decide), ys_eq]
  have o3 : y'.1 289 3 = V := by rw [← hy', ys_ne (by decide), ys_eq]
  have sm' : sm (y'.1 289) = sm (y.1 289) := sm_e (o 4 (by decide) (by decide))
  have eE : ∀ l a b, sE (y'.1 289) l a b ↔ sE (y.1 289) l a b := fun l a b => sE_cg ⟨o _ (by omega) (by omega), o _ (by omega) (by omega)⟩
  refine IV_st i1 (fun q c hq => ?_) (fun q c hq => ?_) (by rw [← hy']; rfl) ⟨?_, ?_⟩ ?_ (fun z => ?_) (kq_0 (by rw [← hy', ys_eq]))
  · unfold sX at hq
    by_cases e0 : q = 0
    · subst e0
      rw [xs_ec (by omega), xs_ne (by decide), xs_ne (by decide)]
    · rw [xs_ne e0, xs_ne (by omega), xs_ne (by omega)]
  · unfold sY at hq
    rw [← hy']
    by_cases e0 : q = 279
    · subst e0
      rw [ys_ec (by omega), ys_ne (by decide), ys_ne (by decide)]
    · rw [ys_ne e0, ys_ne (by omega), ys_ne (by omega)]
  · refine ⟨w1, by rw [sm', o 4 (by decide) (by decide)]; exact w2, by rw [sm']; exact w3, by rw [o 0 (by decide) (by decide)]; exact w4, by rw [o2]; exact w4, ?_, ?_, ?_, ?_⟩
    · rw [o3, o2, sm']
      exact fun l hl => ⟨((hV l).mp hl).1, fun a b ha hb z => ((hV l).mp hl).2.2 a b ha hb ((eE l a b).mp z)⟩
    · rw [sm']
      exact fun l hl => by rw [o _ (by omega) (by omega), o _ (by omega) (by omega)]; exact w7 l hl
    · rw [sm']
      exact fun l k a b hl hk ha hb z1 z2 => w8 l k a b hl hk ha hb ((eE l a b).mp z1) ((eE k a b).mp z2)
    · rw [sm']
      exact fun l hl => by rw [o _ (by omega) (by omega)]; exact w9 l hl
  · unfold sR
    rw [sm', o2, o3, o 0 (by decide) (by decide), o 1 (by decide) (by decide), o 4 (by decide) (by decide), o 5 (by decide) (by decide), o 6 (by decide) (by decide), o 7 (by decide) (by decide), xs_ne (show 14 ≠ 0 by decide)]
    refine ⟨?_, ?_, ?_, ?_, ?_, ?_, ?_, ?_, ?_, ?_, fun l hl => ?_⟩
    · rw [xs_ec (by decide), xs_ec (by decide)]; exact r0
    · rw [xs_ec (by decide), xs_ec (by decide)]; exact r1
    · rw [xs_ec (by decide), xs_ec (by decide)]; exact r2
    · rw [xs_ec (by decide), xs_ec (by decide)]; exact r3
    · rw [xs_ec (by decide), xs_ec (by decide)]; exact r4
    · rw [xs_ec (by decide), xs_eq]; exact r2
    · rw [xs_eq]
    · rw [xs_ec (by decide), xs_ec (by decide)]; exact r7
    · rw [xs_ec (by decide), xs_ec (by decide)]; exact r8
    · rw [xs_ec (by decide), xs_ec (by decide)]; exact r9
    · rw [xs_ne (by decide), xs_ne (by decide), xs_ne (by decide), xs_ne (by decide), xs_ne (by decide), xs_ne (by decide), xs_ne (by decide), xs_ne (by decide), xs_ne (by decide), xs_ne (by decide), xs_ne (by decide), xs_ne (by decide), o _ (by omega) (by omega), o _ (by omega) (by omega), o _ (by omega) (by omega), o _ (by omega) (by omega)]
      exact rl l hl
  · refine cP_sg (σ := y.1 289) (cP_mo (x := x) ?_ (fun q q1 q2 => ?_) ?_ ?_ ?_ i1.2.2.2.2.2.1) (o 0 (by decide) (by decide)) (o 1 (by decide) (by decide)) (o 4 (by decide) (by decide)) (fun l hl => ⟨o _ (by omega) (by omega), o _ (by omega) (by omega)⟩)
    · rw [xs_ec (by decide), xs_ne (by decide), xs_ne (by decide)]
    · rw [xs_ne (by omega), xs_ne (by omega), xs_ne (by omega)]
    · rw [xs_ne (by decide), xs_ne (by decide), xs_ne (by decide)]
    · rw [xs_ne (by decide), xs_ne (by decide), xs_ne (by decide)]
    · rw [xs_ne (by decide), xs_ne (by decide), xs_ne (by decide)]
  · rw [xs_eq] at z
    exact absurd z (by decide)
theorem st_learn (h : IV np rt x y) : sam (f_X10_learn x) (f_X11_learn y) := by
  unfold f_X10_learn f_X11_learn
  obtain ⟨V, v1, v2⟩ := live_ok x h.1.2 h.1.1
  obtain ⟨V', v3, v4⟩ := netLinks_ok y h.1.1
  rw [sL_un v4 v2] at v3
  rw [v1, Option.bind_some, m_jn, h.1.2.2.2.1, h.1.2.2.2.2.2.2.1, h.1.2.2.2.2.2.2.2.1]
  dsimp only
  have go : sam ((f_X2_keep x).bind fun q3 => (m_let (m_xs q3 14 5 (q3.1 14 2)) fun x4 => (m_let (m_xs x4 14 6 V) fun x5 => (m_let (m_xs x5 0 8 (1 : Int32)) fun x6 => (some ((1 : Int32), x6)))))) ((f_X11_marks y).bind fun q2 => ((f_X11_learns q2).bind fun q3 => (some ((1 : Int32), q3)))) := by
    obtain ⟨x1, y1, e1, e2, i1, w1, w2⟩ := two_keep h
    have es : y1.1 289 = y.1 289 := yF_row w2 (fun c => by unfold mkW; omega)
    obtain ⟨y2, g1, g2⟩ := learn_two i1 (V := V) (by rw [es]; exact v2)
    rw [e1, e2, Option.bind_some, Option.bind_some, g1, Option.bind_some, m_let, m_let, m_let]
    exact ⟨_, _, y2, rfl, rfl, g2⟩
  by_cases c1 : y.1 289 2 = y.1 289 0
  · rw [if_pos c1, if_pos c1, v3, Option.bind_some]
    by_cases c2 : y.1 289 3 = V
    · rw [if_pos c2, if_pos c2]
      exact ⟨_, x, y, rfl, rfl, np, rt, h⟩
    · rw [if_neg c2, if_neg c2]
      exact go
  · rw [if_neg c1, if_neg c1]
    exact go
end SV
