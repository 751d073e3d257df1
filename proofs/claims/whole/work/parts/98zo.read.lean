/-! ===== the call read ===== -/
section TW
variable {B : Nat → Nat} {b M N k np rt : Nat} {x x0 x' x1 : mX} {y y' y1 y0 : mY} {σ σ' : Nat → Int32}
/-- the two states out of a text without a fault -/
theorem good_2 (ht : txK (kdK B b) N) (hf : nfX B b N) (hx : fnX B b N x) (hy : enY B b N y) : (∀ c, c < 8 → c ≠ 2 → c ≠ 3 → y.1 288 c = sgX x c) ∧ (∀ l, l < cNk (kdK B b) 21 N → y.1 288 (8 + l) = sgX x (8 + l) ∧ y.1 288 (24 + l) = sgX x (24 + l) ∧ y.1 288 (40 + l) = sgX x (40 + l) ∧ y.1 288 (56 + l) = sgX x (56 + l)) := by
  obtain ⟨a1, a2, a3, a4, a5, a6, a7, a8, a9⟩ := hx
  obtain ⟨b1, b2, b3, b4, b5, b6, b7⟩ := hy
  have m16 := ht.2.2.2.2.2.1
  have eT := nf_T hf
  have e0 : y.1 288 0 = x.1 2 2 := b_eq_iff fun i => by rw [b1 i, a1 i, eT]
  have e1 : y.1 288 1 = x.1 2 3 := b_eq_iff fun l => by rw [b2 l, a2 l]
  refine ⟨fun c hc h2 h3 => ?_, fun l hl => ?_⟩
  · have t : c = 0 ∨ c = 1 ∨ c = 4 ∨ c = 5 ∨ c = 6 ∨ c = 7 := by omega
    rcases t with rfl | rfl | rfl | rfl | rfl | rfl
    · exact e0
    · exact e1
    · exact b5.trans a7.symm
    · exact (b4 5 (by omega)).trans (a5 7 (by decide) (by decide)).symm
    · exact (b4 6 (by omega)).trans (a5 8 (by decide) (by decide)).symm
    · exact (b4 7 (by omega)).trans (a5 9 (by decide) (by decide)).symm
  · obtain ⟨s1, s2, s3, s4⟩ := sgX_l (x := x) (show l < 16 by omega)
    obtain ⟨g1, g2, g3, g4⟩ := lkX_at a6 hl
    obtain ⟨q1, q2, q3⟩ := nTk_ok (K := kdK B b) (q := 21) N l hl
    obtain ⟨w1, w2, w3⟩ := b6 _ q1 q2
    rw [q3] at w1 w2 w3
    rw [s1, s2, s3, s4, g1, g2, g3, g4, w1, w2, w3, eT]
    exact ⟨rfl, rfl, rfl, b7 l (by omega)⟩
theorem rt_np (hf : nfX B b N) : ∀ k, k ≤ N → (rtK (kdK B b) (iyT B b N) k = 0 ∨ rtK (kdK B b) (iyT B b N) k < cNk (kdK B b) 20 N)
  | 0, _ => Or.inl rfl
  | k + 1, hk => by
    by_cases c : kdK B b k = 23
    · rw [show rtK (kdK B b) (iyT B b N) (k + 1) = iyT B b N (k + 1) from if_pos c]
      exact Or.inr (iy_np (nf_1 hf (by omega) (Or.inr c)))
    · rw [show rtK (kdK B b) (iyT B b N) (k + 1) = rtK (kdK B b) (iyT B b N) k from if_neg c]
      exact rt_np hf k (by omega)
/-- what follows in the reference once a text is good -/
def endR (y18 : mY) : Option (Int32 × mY) := (m_let (m_ys y18 279 17 (y18.1 279 19)) fun y19 => (m_jn (fun w21 => (m_let (m_ys y19 279 18 w21) fun y22 => (f_X11_read_L190 mF (0 : Int32) y22 (fun y24 => ((f_X11_learns y24).bind fun q25 => (m_let (m_ys q25 279 27 (0 : Int32)) fun y26 => (f_X11_read_L225 mF (0 : Int32) y26))))))) (fun j20 => if (y19.1 279 17) = 0 then (j20 (-2 : Int32)) else (j20 (y19.1 279 21)))))
/-- both go on with the new state -/
theorem good_x (ht : txK (kdK B b) N) (hf : nfX B b N) (h : IV np rt x0 y0) (hxF : eqX rdX x0 x) (hx0 : x.1 1 0 = 0) (hx1 : x.1 1 1 = -1) (hx : fnX B b N x) (hyF : eqY rdY y0 y) (hK : y.2 286 = y0.2 286) (h2 : y.1 279 2 = 0) (h16 : y.1 279 16 = -1) (h19 : y.1 279 19 = nI (cNk (kdK B b) 20 N)) (hy : enY B b N y) : sam ((f_X6_copy 14 2 x).bind fun q2 => (m_let (f_X2_forget q2) fun x3 => (m_let (m_xs x3 0 4 (0 : Int32)) fun x4 => (m_let (f_X10_allChanged x4) fun x5 => (some ((0 : Int32), x5)))))) (endR y) := by
  have p8 := ht.2.2.2.2.1
  have m16 := ht.2.2.2.2.2.1
  obtain ⟨g1, g2⟩ := good_2 ht hf hx hy
  obtain ⟨a1, a2, a3, a4, a5, a6, a7, a8, a9⟩ := hx
  have hm := sgX_m a7 m16
  -- the class
  obtain ⟨x2, e2, f2, r2⟩ := copy_ok (d0 := 14) (s0 := 2) (Or.inr (by decide)) x a8 a9
  rw [e2, Option.bind_some, m_let, m_let, m_let]
  obtain ⟨x5, hx5⟩ : ∃ x5, f_X10_allChanged (m_xs (f_X2_forget x2) 0 4 0) = x5 := ⟨_, rfl⟩
  rw [hx5]
  have hx5' : x5 = m_xs (m_xs (m_xs (m_xs x2 19 0 0) 0 4 0) 0 6 1) 0 8 1 := by rw [← hx5]; rfl
  have rx : ∀ q, q ≠ 0 → q ≠ 19 → x5.1 q = x2.1 q := fun q q0 q19 => by rw [hx5', xs_ne q0, xs_ne q0, xs_ne q0, xs_ne q19]
  have x04 : x5.1 0 4 = 0 := by rw [hx5', xs_ec (by decide), xs_ec (by decide), xs_eq]
  have x06 : x5.1 0 6 = 1 := by rw [hx5', xs_ec (by decide), xs_eq]
  have x08 : x5.1 0 8 = 1 := by rw [hx5', xs_eq]
  have x190 : x5.1 19 0 = 0 := by rw [hx5', xs_ne (by decide), xs_ne (by decide), xs_ne (by decide), xs_eq]
  have x191 : x5.1 19 1 = x0.1 19 1 := by rw [hx5', xs_ne (by decide), xs_ne (by decide), xs_ne (by decide), xs_ec (by decide), f2.1 19 1 (by unfold cpW; omega), hxF 19 1 (by unfold rdX; omega)]
  -- the reference
  unfold endR
  rw [m_let, h19, m_jn, ys_eq]
  dsimp only
  obtain ⟨w, hw1, hw2⟩ : ∃ w : Int32, ((cNk (kdK B b) 20 N = 0 ∧ w = -2) ∨ (rtK (kdK B b) (iyT B b N) N < cNk (kdK B b) 20 N ∧ w = nI (rtK (kdK B b) (iyT B b N) N))) ∧ (if nI (cNk (kdK B b) 20 N) = 0 then (m_let (m_ys (m_ys y 279 17 (nI (cNk (kdK B b) 20 N))) 279 18 (-2 : Int32)) fun y22 => (f_X11_read_L190 mF (0 : Int32) y22 (fun y24 => ((f_X11_learns y24).bind fun q25 => (m_let (m_ys q25 279 27 (0 : Int32)) fun y26 => (f_X11_read_L225 mF (0 : Int32) y26)))))) else (m_let (m_ys (m_ys y 279 17 (nI (cNk (kdK B b) 20 N))) 279 18 ((m_ys y 279 17 (nI (cNk (kdK B b) 20 N))).1 279 21)) fun y22 => (f_X11_read_L190 mF (0 : Int32) y22 (fun y24 => ((f_X11_learns y24).bind fun q25 => (m_let (m_ys q25 279 27 (0 : Int32)) fun y26 => (f_X11_read_L225 mF (0 : Int32) y26))))))) = (f_X11_read_L190 mF (0 : Int32) (m_ys (m_ys y 279 17 (nI (cNk (kdK B b) 20 N))) 279 18 w) (fun y24 => ((f_X11_learns y24).bind fun q25 => (m_let (m_ys q25 279 27 (0 : Int32)) fun y26 => (f_X11_read_L225 mF (0 : Int32) y26))))) := by
    by_cases c : cNk (kdK B b) 20 N = 0
    · refine ⟨-2, Or.inl ⟨c, rfl⟩, ?_⟩
      rw [if_pos (by rw [c]; rfl), m_let]
    · refine ⟨nI (rtK (kdK B b) (iyT B b N) N), Or.inr ⟨?_, rfl⟩, ?_⟩
      · rcases rt_np hf N (Nat.le_refl _) with z | z
        · omega
        · exact z
      · rw [if_neg (nI_ne0 (by omega) (by omega)), m_let, ys_ec (by decide), hy.2.2.1]
  rw [hw2]
  obtain ⟨y22, hy22⟩ : ∃ y22, m_ys (m_ys y 279 17 (nI (cNk (kdK B b) 20 N))) 279 18 w = y22 := ⟨_, rfl⟩
  rw [hy22]
  have c22 : ∀ c, c ≠ 17 → c ≠ 18 → y22.1 279 c = y.1 279 c := fun c h1 h2 => by rw [← hy22, ys_ec h2, ys_ec h1]
  have q22 : ∀ q, q ≠ 279 → y22.1 q = y.1 q := fun q hq => by rw [← hy22, ys_ne hq, ys_ne hq]
  have c17 : y22.1 279 17 = nI (cNk (kdK B b) 20 N) := by rw [← hy22, ys_ec (by decide), ys_eq]
  have c18 : y22.1 279 18 = w := by rw [← hy22, ys_eq]
  have l22 : y22.2 = y.2 := by rw [← hy22]; rfl
  obtain ⟨y24, e24, f24, z24⟩ := copy_y (fun y24 => ((f_X11_learns y24).bind fun q25 => (m_let (m_ys q25 279 27 (0 : Int32)) fun y26 => (f_X11_read_L225 mF (0 : Int32) y26)))) y22
  rw [e24]
  have s24 : ∀ c, c < 72 → y24.1 289 c = y.1 288 c := fun c hc => by rw [z24 c hc, q22 288 (by decide)]
  -- the links of the net
  unfold f_X11_learns
  rw [m_let]
  obtain ⟨yA, hyA⟩ : ∃ yA, m_ys y24 289 2 (y24.1 289 0) = yA := ⟨_, rfl⟩
  rw [hyA]
  have oA : ∀ c, c ≠ 2 → yA.1 289 c = y24.1 289 c := fun c hc => by rw [← hyA, ys_ec hc]
  have oA2 : yA.1 289 2 = y.1 288 0 := by rw [← hyA, ys_eq, s24 0 (by decide)]
  have sA' : ∀ c, c < 72 → c ≠ 2 → yA.1 289 c = y.1 288 c := fun c hc h2 => by rw [oA c h2, s24 c hc]
  have sm4 : yA.1 289 4 = sgX x 4 := by rw [sA' 4 (by decide) (by decide)]; exact g1 4 (by decide) (by decide) (by decide)
  have smA : sm (yA.1 289) = cNk (kdK B b) 21 N := (sm_e sm4).trans hm
  have endsA : ∀ l, l < cNk (kdK B b) 21 N → yA.1 289 (8 + l) = sgX x (8 + l) ∧ yA.1 289 (24 + l) = sgX x (24 + l) ∧ yA.1 289 (40 + l) = sgX x (40 + l) ∧ yA.1 289 (56 + l) = sgX x (56 + l) := fun l hl => by
    rw [sA' _ (by omega) (by omega), sA' _ (by omega) (by omega), sA' _ (by omega) (by omega), sA' _ (by omega) (by omega)]
    exact g2 l hl
  obtain ⟨V, v1, v2⟩ := netLinks_w (np := cNk (kdK B b) 20 N) yA p8 (by rw [smA, sm4, sgX_c.2.2.2.2.1]; exact a7) (by rw [smA]; exact m16) (fun l hl => by
    rw [smA] at hl
    rw [(endsA l hl).1, (endsA l hl).2.1]
    exact a8.2.2.2.2.2.2.1 l (by rw [hm]; exact hl))
  have vX : sL (yA.1 289) (x.1 2 6) := sL_sg (σ := sgX x) (by rw [sA' 0 (by decide) (by decide)]; exact g1 0 (by decide) (by decide) (by decide)) (by rw [sA' 1 (by decide) (by decide)]; exact g1 1 (by decide) (by decide) (by decide)) sm4 (fun l hl => by
    rw [hm] at hl
    exact ⟨(endsA l hl).1, (endsA l hl).2.1⟩) a4
  rw [v1, Option.bind_some, sL_un v2 vX, m_let, m_let, Option.bind_some, m_let]
  obtain ⟨y26, hy26⟩ : ∃ y26, m_ys (m_ys (m_ys yA 289 3 (x.1 2 6)) 279 30 0) 279 27 0 = y26 := ⟨_, rfl⟩
  rw [hy26]
  obtain ⟨y', e', f', z'⟩ := free_y y26
  rw [e']
  have q26 : ∀ q, q ≠ 279 → q ≠ 289 → y26.1 q = y24.1 q := fun q h1 h2 => by rw [← hy26, ys_ne h1, ys_ne h1, ys_ne h2, ← hyA, ys_ne h2]
  have c26 : ∀ c, c ≠ 27 → c ≠ 30 → y26.1 279 c = y22.1 279 c := fun c h1 h2 => by rw [← hy26, ys_ec h1, ys_ec h2, ys_ne (by decide), ← hyA, ys_ne (by decide), f24.1 279 c (by omega)]
  have s26 : ∀ c, c ≠ 3 → y26.1 289 c = yA.1 289 c := fun c hc => by rw [← hy26, ys_ne (by decide), ys_ne (by decide), ys_ec hc]
  have s263 : y26.1 289 3 = x.1 2 6 := by rw [← hy26, ys_ne (by decide), ys_ne (by decide), ys_eq]
  have l26 : y'.2 = y.2 := by
    rw [f'.2, ← hy26]
    show yA.2 = _
    rw [← hyA]
    show y24.2 = _
    rw [f24.2, l22]
  have r289 : y'.1 289 = y26.1 289 := yF_row f' (fun c => by omega)
  have r279 : y'.1 279 = y26.1 279 := yF_row f' (fun c => by omega)
  have agree : ∀ c, c < 8 → y'.1 289 c = sgX x c := fun c hc => by
    rw [r289]
    by_cases c3 : c = 3
    · subst c3
      exact s263
    · rw [s26 c c3]
      by_cases c2 : c = 2
      · subst c2
        rw [oA2, g1 0 (by decide) (by decide) (by decide)]
        exact a3.symm
      · rw [sA' c (by omega) c2]
        exact g1 c hc c2 c3
  have agl : ∀ l, l < sm (sgX x) → y'.1 289 (8 + l) = sgX x (8 + l) ∧ y'.1 289 (24 + l) = sgX x (24 + l) ∧ y'.1 289 (40 + l) = sgX x (40 + l) ∧ y'.1 289 (56 + l) = sgX x (56 + l) := fun l hl => by
    rw [hm] at hl
    rw [r289, s26 _ (by omega), s26 _ (by omega), s26 _ (by omega), s26 _ (by omega)]
    exact endsA l hl
  obtain ⟨b1, b2, b3, b4, b5, b6, b7, b8', b9⟩ := h
  refine ⟨_, x5, y', rfl, rfl, cNk (kdK B b) 20 N, rtK (kdK B b) (ixT B b N) N, ⟨sW_ag agree agl a8, ?_⟩, ?_, ?_, ?_, ?_, ?_, ?_, ?_, ?_⟩
  · exact sR_cg (fun q q1 q2 => rx q (by omega) (by omega)) (sR_ag agree agl r2)
  · refine ⟨?_, ?_⟩
    · rw [r279, c26 17 (by decide) (by decide)]
      exact c17
    · rw [r279, c26 18 (by decide) (by decide), c18, nf_T hf]
      exact hw1
  · obtain ⟨k, t, e, i1, i2, i3, i4, i5, i6, i7, i8⟩ := b3
    refine ⟨0, t, e, by decide, i2, i3, x190, by rw [x191]; exact i5, ?_, ?_, fun j j1 j2 => by omega⟩
    · rw [r279, ← hy26, ys_eq]
      rfl
    · rw [r279, c26 26 (by decide) (by decide), c22 26 (by decide) (by decide), hyF 279 26 (by unfold rdY; omega)]
      exact i7
  · refine ⟨fun s hs => ?_, fun s hs => Or.inr ⟨?_, z' s hs⟩⟩
    · rw [x04, b_0] at hs
      cases hs
    · rw [x04, b_0]
      decide
  · refine ⟨0, by decide, ?_, ?_, fun i hi => absurd hi (Nat.not_lt_zero _), ?_⟩
    · rw [rx 1 (by decide) (by decide), f2.1 1 0 (by unfold cpW; omega)]
      exact hx0
    · rw [r279, c26 2 (by decide) (by decide), c22 2 (by decide) (by decide)]
      exact h2
    · rw [rx 1 (by decide) (by decide), f2.1 1 1 (by unfold cpW; omega), r279, c26 16 (by decide) (by decide), c22 16 (by decide) (by decide), h16]
      exact hx1
  · intro z
    rw [x06] at z
    exact absurd z (by decide)
  · intro z
    rw [x08] at z
    exact absurd z (by decide)
  · refine kq_0 ?_
    rw [r279, ← hy26, ys_ec (by decide), ys_eq]
  · unfold yKs
    rw [l26, hK]
    exact b9
end TW
