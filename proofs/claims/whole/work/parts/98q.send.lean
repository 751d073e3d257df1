/-! ===== call send ===== -/
section SY
variable {np rt : Nat} {x x' : mX} {y y' : mY} {p1 p2 : Int32}
theorem send_L {T : List Nat} {tn w : Int32} (y : mY) (ht : tr_Y y T tn) (hl : T.length ≤ 14) (h16 : ∀ (i l : Nat), T[i]? = some l → l < 16) : ∃ y1, f_X11_send_L65 w mF 0 y = (if w = 0 then some (0, y1) else some (1, y1)) ∧ yF (fun q c => q = 289 ∧ 56 ≤ c) y y1 ∧ ∀ i, y1.1 289 (56 + i) = ldj T (fun i => y.1 289 (56 + i)) T.length i := by
  have z := lp_up T.length (fun n b (s : mY) => f_X11_send_L65 w n b s) (fun j s => yF (fun q c => q = 289 ∧ 56 ≤ c) y s ∧ ∀ i, s.1 289 (56 + i) = ldj T (fun i => y.1 289 (56 + i)) j i) (fun o => ∃ y1, o = (if w = 0 then some (0, y1) else some (1, y1)) ∧ yF (fun q c => q = 289 ∧ 56 ≤ c) y y1 ∧ ∀ i, y1.1 289 (56 + i) = ldj T (fun i => y.1 289 (56 + i)) T.length i) (by
    rintro n s ⟨g1, g2⟩
    show ∃ y1, f_X11_send_L65 w (n + 1) (nI T.length) s = _ ∧ _
    have e : s.1 279 54 = nI T.length := by rw [g1.1 279 54 (by omega)]; exact ht.1
    rw [f_X11_send_L65, if_pos (show s.1 279 54 ≤ nI T.length by rw [e]; exact nI_le (Nat.le_refl _) (by omega))]
    exact ⟨s, rfl, g1, g2⟩) (by
    rintro n j s hj ⟨g1, g2⟩ ih
    show ∃ y1, f_X11_send_L65 w (n + 1) (nI j) s = _ ∧ _
    have e : s.1 279 54 = nI T.length := by rw [g1.1 279 54 (by omega)]; exact ht.1
    obtain ⟨l, hT⟩ : ∃ l, T[j]? = some l := ⟨_, List.getElem?_eq_getElem hj⟩
    have l16 := h16 j l hT
    have e2 : s.1 309 j = nI l := by rw [g1.1 309 j (by omega)]; exact ht.2.2 j l hT
    rw [f_X11_send_L65, if_neg (show ¬ s.1 279 54 ≤ nI j by rw [e]; exact nI_ge hj (by omega)), if_pos (in_ok (by omega) (by decide)), cl (by omega), e2, a56, if_pos (in_ok (by omega) (by decide)), if_pos (in_ok (by omega) (by decide)), cl (by omega), m_let, nI_1]
    refine ih _ ⟨yF_set g1 ⟨rfl, by omega⟩, fun i => ?_⟩
    rw [ldj_s hT]
    by_cases c : i = l
    · subst c
      rw [ys_eq, if_pos rfl, g2]
    · rw [ys_ec (by omega), if_neg c, g2]) mF 0 y (Nat.lt_of_lt_of_le (show T.length < mF from Nat.lt_of_le_of_lt hl (by decide)) (Nat.le_add_left _ _)) (Nat.zero_le _) ⟨yF_rf _ _, fun i => rfl⟩
  exact z
/-- numbers and loads changed alike -/
theorem IV_sn (h : IV np rt x y) {T : List Nat} (hT : ∀ i l : Nat, T[i]? = some l → l < sm (y.1 289)) (hx : ∀ q c, ¬ (q = 14 ∧ (c = 7 ∨ c = 8 ∨ c = 9)) → q ≠ 18 → x'.1 q c = x.1 q c) (hy : ∀ q c, ¬ (q = 289 ∧ (c = 5 ∨ c = 6 ∨ c = 7 ∨ 56 ≤ c)) → y'.1 q c = y.1 q c) (hK : y'.2 286 = y.2 286) (h7 : x'.1 14 7 = y'.1 289 5) (h8 : x'.1 14 8 = y'.1 289 6) (h9 : x'.1 14 9 = y'.1 289 7) (hl : ∀ i, x'.1 18 i = ldj T (x.1 18) T.length i) (hl' : ∀ i, y'.1 289 (56 + i) = ldj T (fun i => y.1 289 (56 + i)) T.length i) : IV np rt x' y' := by
  have hW := h.1.1
  have m16 := hW.2.2.1
  obtain ⟨r0, r1, r2, r3, r4, r5, r6, r7, r8, r9, rl⟩ := h.1.2
  have o : ∀ c, c < 5 ∨ (8 ≤ c ∧ c < 56) → y'.1 289 c = y.1 289 c := fun c hc => hy 289 c (by omega)
  have x14 : ∀ c, c < 7 → x'.1 14 c = x.1 14 c := fun c hc => hx 14 c (by omega) (by decide)
  have xr : ∀ q, q ≠ 14 → q ≠ 18 → x'.1 q = x.1 q := fun q q1 q2 => funext fun c => hx q c (by omega) q2
  have sm' : sm (y'.1 289) = sm (y.1 289) := sm_e (o 4 (by omega))
  have yr : ∀ q, q ≠ 289 → y'.1 q = y.1 q := fun q q1 => funext fun c => hy q c (by omega)
  refine IV_st h (fun q c hq => ?_) (fun q c hq => ?_) hK ⟨?_, ?_⟩ ?_ ?_ ?_
  · unfold sX at hq
    exact hx q c (by omega) (by omega)
  · unfold sY at hq
    exact hy q c (by omega)
  · exact sW_sg hW (by rw [o 0 (by omega)]; exact hW.2.2.2.1) (o 2 (by omega)) (o 3 (by omega)) (o 4 (by omega)) (fun l hl => ⟨o _ (by omega), o _ (by omega)⟩) (fun l hl => by rw [o _ (by omega)]; exact hW.2.2.2.2.2.2.2.2 l hl)
  · unfold sR
    rw [sm', x14 0 (by decide), x14 1 (by decide), x14 2 (by decide), x14 3 (by decide), x14 4 (by decide), x14 5 (by decide), x14 6 (by decide), o 0 (by omega), o 1 (by omega), o 2 (by omega), o 3 (by omega), o 4 (by omega)]
    refine ⟨r0, r1, r2, r3, r4, r5, r6, h7, h8, h9, fun l hl0 => ?_⟩
    rw [xr (14 + 1) (by decide) (by decide), xr (14 + 2) (by decide) (by decide), xr (14 + 3) (by decide) (by decide), o _ (by omega), o _ (by omega), o _ (by omega)]
    refine ⟨(rl l hl0).1, (rl l hl0).2.1, (rl l hl0).2.2.1, ?_⟩
    rw [hl' l]
    show x'.1 18 l = _
    rw [hl l]
    exact ldj_cg (rl l hl0).2.2.2 _
  · exact cP_sg (σ := y.1 289) (cP_mo (x := x) (hx 0 6 (by omega) (by decide)) (fun q q1 q2 => xr q (by omega) (by omega)) (hx 256 0 (by omega) (by decide)) (hx 256 2 (by omega) (by decide)) (xr 257 (by decide) (by decide)) h.2.2.2.2.2.1) (o 0 (by omega)) (o 1 (by omega)) (o 4 (by omega)) (fun l hl => ⟨o _ (by omega), o _ (by omega)⟩)
  · exact cL_sg (σ := y.1 289) (cL_mo (x := x) (hx 0 8 (by omega) (by decide)) (fun q q1 q2 => xr q (by omega) (by omega)) (hx 234 2 (by omega) (by decide)) (fun q q1 q2 => xr q (by omega) (by omega)) h.2.2.2.2.2.2.1) (o 2 (by omega)) (o 3 (by omega)) (eEnd_rf (fun c h1 h2 => o c (by omega)) (l16 hW))
  · exact kq_sg h.2.2.2.2.2.2.2.1 (fun q q1 q2 => yr q (by omega)) (by rw [yr 279 (by decide)]) (o 2 (by omega)) (o 3 (by omega)) (eEnd_rf (fun c h1 h2 => o c (by omega)) (l16 hW))
theorem sx_ok (x : mX) {w : Int32} (hw : x.1 251 0 = w) (h01 : w = 0 ∨ w = 1) : ∃ x5, (m_let (m_xs x 14 7 ((x.1 14 7) + (1 : Int32))) fun x6 => (m_let (m_xs x6 14 9 ((x6.1 14 9) + (x6.1 251 1))) fun x7 => (m_jn (fun x9 => (if (x9.1 251 0) = 0 then (some ((0 : Int32), x9)) else (some ((1 : Int32), x9)))) (fun j8 => if (x7.1 251 0) = 0 then (j8 x7) else (m_let (m_xs x7 14 8 ((x7.1 14 8) + (1 : Int32))) fun x10 => (j8 x10)))))) = some (w, x5) ∧ (∀ q c, ¬ (q = 14 ∧ (c = 7 ∨ c = 8 ∨ c = 9)) → x5.1 q c = x.1 q c) ∧ x5.1 14 7 = x.1 14 7 + 1 ∧ x5.1 14 8 = (if w = 0 then x.1 14 8 else x.1 14 8 + 1) ∧ x5.1 14 9 = x.1 14 9 + x.1 251 1 := by
  rw [m_let, m_let, m_jn]
  have e0 : (m_xs (m_xs x 14 7 (x.1 14 7 + 1)) 14 9 ((m_xs x 14 7 (x.1 14 7 + 1)).1 14 9 + (m_xs x 14 7 (x.1 14 7 + 1)).1 251 1)).1 251 0 = w := by rw [xs_ne (by decide), xs_ne (by decide), hw]
  dsimp only
  rcases h01 with rfl | rfl
  · rw [if_pos e0, if_pos e0]
    refine ⟨_, rfl, fun q c n1 => ?_, ?_, ?_, ?_⟩
    · by_cases e14 : q = 14
      · subst e14
        rw [xs_ec (by omega), xs_ec (by omega)]
      · rw [xs_ne e14, xs_ne e14]
    · rw [xs_ec (by decide), xs_eq]
    · rw [if_pos rfl, xs_ec (by decide), xs_ec (by decide)]
    · rw [xs_eq, xs_ec (by decide), xs_ne (by decide)]
  · have n0 : ¬ (m_xs (m_xs x 14 7 (x.1 14 7 + 1)) 14 9 ((m_xs x 14 7 (x.1 14 7 + 1)).1 14 9 + (m_xs x 14 7 (x.1 14 7 + 1)).1 251 1)).1 251 0 = 0 := by rw [e0]; decide
    rw [if_neg n0, m_let, if_neg (by rw [xs_ne (by decide), e0]; decide)]
    refine ⟨_, rfl, fun q c n1 => ?_, ?_, ?_, ?_⟩
    · by_cases e14 : q = 14
      · subst e14
        rw [xs_ec (by omega), xs_ec (by omega), xs_ec (by omega)]
      · rw [xs_ne e14, xs_ne e14, xs_ne e14]
    · rw [xs_ec (by decide), xs_ec (by decide), xs_eq]
    · rw [if_neg (by decide), xs_eq, xs_ec (by decide), xs_ec (by decide)]
    · rw [xs_ec (by decide), xs_eq, xs_ec (by decide), xs_ne (by decide)]
theorem sy_ok {T : List Nat} {tn w : Int32} (y : mY) (ht : tr_Y y T tn) (hl : T.length ≤ 14) (h16 : ∀ (i l : Nat), T[i]? = some l → l < 16) (h01 : w = 0 ∨ w = 1) : ∃ y5, (m_let (m_ys y 289 5 ((y.1 289 5) + (1 : Int32))) fun y4 => (m_jn (fun y6 => (m_let (m_ys y6 289 7 ((y6.1 289 7) + (y6.1 279 54))) fun y7 => (f_X11_send_L65 w mF (0 : Int32) y7))) (fun j5 => if w = 0 then (j5 y4) else (m_let (m_ys y4 289 6 ((y4.1 289 6) + (1 : Int32))) fun y9 => (j5 y9))))) = some (w, y5) ∧ (∀ q c, ¬ (q = 289 ∧ (c = 5 ∨ c = 6 ∨ c = 7 ∨ 56 ≤ c)) → y5.1 q c = y.1 q c) ∧ y5.2 = y.2 ∧ y5.1 289 5 = y.1 289 5 + 1 ∧ y5.1 289 6 = (if w = 0 then y.1 289 6 else y.1 289 6 + 1) ∧ y5.1 289 7 = y.1 289 7 + y.1 279 54 ∧ ∀ i, y5.1 289 (56 + i) = ldj T (fun i => y.1 289 (56 + i)) T.length i := by
  rw [m_let, m_jn]
  dsimp only
  have key : ∀ z : mY, (∀ q c, ¬ (q = 289 ∧ (c = 5 ∨ c = 6 ∨ c = 7)) → z.1 q c = y.1 q c) → z.2 = y.2 → z.1 289 5 = y.1 289 5 + 1 → z.1 289 6 = (if w = 0 then y.1 289 6 else y.1 289 6 + 1) → z.1 289 7 = y.1 289 7 → ∃ y5, (m_let (m_ys z 289 7 ((z.1 289 7) + (z.1 279 54))) fun y7 => (f_X11_send_L65 w mF (0 : Int32) y7)) = some (w, y5) ∧ (∀ q c, ¬ (q = 289 ∧ (c = 5 ∨ c = 6 ∨ c = 7 ∨ 56 ≤ c)) → y5.1 q c = y.1 q c) ∧ y5.2 = y.2 ∧ y5.1 289 5 = y.1 289 5 + 1 ∧ y5.1 289 6 = (if w = 0 then y.1 289 6 else y.1 289 6 + 1) ∧ y5.1 289 7 = y.1 289 7 + y.1 279 54 ∧ ∀ i, y5.1 289 (56 + i) = ldj T (fun i => y.1 289 (56 + i)) T.length i := fun z h1 h2 h5 h6 h7 => by
    rw [m_let]
    obtain ⟨y4, q1, q2, q3⟩ := send_L (w := w) (T := T) (tn := tn) (m_ys z 289 7 (z.1 289 7 + z.1 279 54)) ⟨by rw [ys_ne (by decide), h1 279 54 (by omega)]; exact ht.1, by rw [ys_ne (by decide), h1 279 55 (by omega)]; exact ht.2.1, fun i l hi => by rw [ys_ne (by decide), h1 309 i (by omega)]; exact ht.2.2 i l hi⟩ hl h16
    refine ⟨y4, ?_, fun q c n1 => ?_, ?_, ?_, ?_, ?_, fun i => ?_⟩
    · rw [q1]
      rcases h01 with rfl | rfl
      · rw [if_pos rfl]
      · rw [if_neg (by decide)]
    · rw [q2.1 q c (by omega)]
      by_cases e9 : q = 289
      · subst e9
        rw [ys_ec (by omega), h1 289 c (by omega)]
      · rw [ys_ne e9, h1 q c (by omega)]
    · rw [q2.2]
      exact h2
    · rw [q2.1 289 5 (by omega), ys_ec (by decide)]
      exact h5
    · rw [q2.1 289 6 (by omega), ys_ec (by decide)]
      exact h6
    · rw [q2.1 289 7 (by omega), ys_eq, h7, h1 279 54 (by omega)]
    · rw [q3 i]
      refine ldj_cg ?_ _
      show (m_ys z 289 7 _).1 289 (56 + i) = y.1 289 (56 + i)
      rw [ys_ec (by omega), h1 289 _ (by omega)]
  rcases h01 with rfl | rfl
  · rw [if_pos rfl]
    refine key _ (fun q c n1 => ?_) rfl (ys_eq _ _ _ _) ?_ (ys_ec (by decide))
    · by_cases e9 : q = 289
      · subst e9
        rw [ys_ec (by omega)]
      · rw [ys_ne e9]
    · rw [if_pos rfl, ys_ec (by decide)]
  · rw [if_neg (by decide), m_let]
    refine key _ (fun q c n1 => ?_) rfl ?_ ?_ ?_
    · by_cases e9 : q = 289
      · subst e9
        rw [ys_ec (by omega), ys_ec (by omega)]
      · rw [ys_ne e9, ys_ne e9]
    · rw [ys_ec (by decide), ys_eq]
    · rw [if_neg (by decide), ys_eq, ys_ec (by decide)]
    · rw [ys_ec (by decide), ys_ec (by decide)]
theorem st_send (h : IV np rt x y) : sam (f_X10_send p1 p2 x) (f_X11_send p1 p2 y) := by
  unfold f_X10_send f_X11_send
  have n8 := h.1.1.1
  have m16 := h.1.1.2.2.1
  obtain ⟨r, x1, e1, e2, i1, ⟨s, d, k, rfl, z8, ct⟩ | rfl⟩ := two_go h p1 p2
  · obtain ⟨s1, d1, rfl, rfl, sd, os, od⟩ := k
    obtain ⟨x2, y2, f1, f2, i2, w1, w2⟩ := two_keep i1
    have es : y2.1 289 = y.1 289 := yF_row w2 (fun c => by unfold mkW; omega)
    obtain ⟨V, v1, v2⟩ := live_ok x2 i2.1.2 i2.1.1
    obtain ⟨R, w, x3, y3, g1, g2, g3, g4, g5, g6, g7, g8, i3, u1, u2, u3⟩ := two_trip (s := s) (d := d) i2 (by rw [w1.1 0 8 (by unfold kpX; omega)]; exact z8) (by omega) (by omega) (by rw [es]; exact ct_r_rows (x := x1) (fun q q1 q2 => xF_row w1 (fun c => by unfold kpX; omega)) ct) (by rw [es]; exact os) (lv_0 v2)
    have l14 := tr_14 (sN_learnt i2.1.1) g5
    have es3 : y3.1 289 = y2.1 289 := yF_row u2 (fun c => by unfold go_W kn_W gw_W; omega)
    have m16' : sm (y2.1 289) ≤ 16 := i2.1.1.2.2.1
    obtain ⟨x4, t1, t2, t3⟩ := tally_ok (r1 := 18) (by decide) (by decide) x3 g6 l14.1 (fun i l hi => by have := l14.2 i l hi; omega)
    have x4r : ∀ q c, q ≠ 18 → x4.1 q c = x3.1 q c := fun q c hq => t2.1 q c (by omega)
    obtain ⟨x5, a1, a2, a3, a4, a5⟩ := sx_ok x4 (w := w) (by rw [x4r _ _ (by decide)]; exact g3) g4
    obtain ⟨y5, b1, b2, b3, b4, b5, b6, b7⟩ := sy_ok y3 g7 l14.1 (fun i l hi => by have := l14.2 i l hi; omega) g4
    obtain ⟨r0, r1, r2, r3, r4, r5, r6, r7, r8, r9, rl⟩ := i3.1.2
    rw [e1, Option.bind_some, e2, Option.bind_some]
    dsimp only
    rw [if_neg (show ¬ (1 : Int32) = 0 by decide), if_neg (show ¬ (1 : Int32) = 0 by decide), f1, Option.bind_some, f2, Option.bind_some, v1, Option.bind_some, g1, Option.bind_some, t1, Option.bind_some, g2, Option.bind_some, a1]
    refine ⟨w, x5, y5, rfl, b1, np, rt, IV_sn i3 (T := R.2.1) (fun i l hi => by rw [es3]; exact l14.2 i l hi) (fun q c n1 n2 => ?_) b2 (by rw [b3]) ?_ ?_ ?_ (fun i => ?_) b7⟩
    · rw [a2 q c n1, x4r q c n2]
    · rw [a3, b4, x4r _ _ (by decide), r7]
    · rw [a4, b5, x4r _ _ (by decide), r8]
    · rw [a5, b6, x4r _ _ (by decide), x4r _ _ (by decide), r9, g6.1, g7.1]
    · rw [a2 18 i (by omega), t3 i]
  · rw [e1, Option.bind_some, e2, Option.bind_some]
    exact ⟨_, x1, y, rfl, rfl, np, rt, i1⟩
end SY
