/-! ===== the text: the reference's line and its loop ===== -/
section TK
variable {B : Nat → Nat} {b M k e p l : Nat} {sh : List Nat} {y y' y0 : mY} {R : Nat × Nat × Nat}
theorem line_20 (hk : k < 403) (h11 : y.1 279 11 = nI k) (h : y.1 282 k = nI 20) : f_X11_line y = if y.1 279 19 = (8 : Int32) then ((f_X11_fail (2 : Int32) y).bind fun q => some q) else (f_X11_passes y).bind fun q5 => (f_X11_is (1 : Int32) q5).bind fun q20 => if q20 = 0 then ((f_X11_must (1 : Int32) q5).bind fun q8 => (f_X11_must (4 : Int32) q8).bind fun q18 => some q18) else (if m_in (q5.1 279 11) 403 = true then (if m_in (q5.1 279 19) 8 = true then ((f_X11_must (1 : Int32) (m_ys (m_yl q5 287 (q5.1 279 19).toNatClampNeg (q5.2 285 (q5.1 279 11).toNatClampNeg)) 279 19 (((m_yl q5 287 (q5.1 279 19).toNatClampNeg (q5.2 285 (q5.1 279 11).toNatClampNeg)).1 279 19) + (1 : Int32)))).bind fun q8 => (f_X11_must (4 : Int32) q8).bind fun q18 => some q18) else none) else none) := by
  unfold f_X11_line
  rw [h11, if_pos (in_ok hk (by decide)), cl (by omega), h]
  simp only [m_jn, m_let, if_pos (show nI 20 = (20 : Int32) from rfl), if_neg (show ¬ nI 20 = (21 : Int32) by decide), if_neg (show ¬ nI 20 = (24 : Int32) by decide), if_neg (show ¬ nI 20 < (20 : Int32) by decide), if_pos (show nI 20 ≤ (24 : Int32) by decide)]
theorem line_21 (hk : k < 403) (h11 : y.1 279 11 = nI k) (h : y.1 282 k = nI 21) : f_X11_line y = if y.1 279 20 = (16 : Int32) then ((f_X11_fail (2 : Int32) y).bind fun q => some q) else (f_X11_passes y).bind fun q5 => (f_X11_must (1 : Int32) q5).bind fun q8 => (f_X11_must (1 : Int32) (m_ys q8 279 20 ((q8.1 279 20) + (1 : Int32)))).bind fun q12 => (f_X11_must (2 : Int32) q12).bind fun q13 => (f_X11_must (4 : Int32) q13).bind fun q14 => some q14 := by
  unfold f_X11_line
  rw [h11, if_pos (in_ok hk (by decide)), cl (by omega), h]
  simp only [m_jn, m_let, if_pos (show nI 21 = (21 : Int32) from rfl), if_neg (show ¬ nI 21 = (20 : Int32) by decide), if_neg (show ¬ nI 21 < (20 : Int32) by decide), if_pos (show nI 21 ≤ (24 : Int32) by decide)]
theorem line_22 (hk : k < 403) (h11 : y.1 279 11 = nI k) (he : e = 22 ∨ e = 23) (h : y.1 282 k = nI e) : f_X11_line y = (f_X11_passes y).bind fun q5 => (f_X11_must (1 : Int32) q5).bind fun q8 => (f_X11_must (4 : Int32) q8).bind fun q18 => some q18 := by
  unfold f_X11_line
  rw [h11, if_pos (in_ok hk (by decide)), cl (by omega), h]
  rcases he with rfl | rfl
  · simp only [m_jn, m_let, if_neg (show ¬ nI 22 = (20 : Int32) by decide), if_neg (show ¬ nI 22 = (21 : Int32) by decide), if_neg (show ¬ nI 22 = (24 : Int32) by decide), if_neg (show ¬ nI 22 < (20 : Int32) by decide), if_pos (show nI 22 ≤ (24 : Int32) by decide)]
  · simp only [m_jn, m_let, if_neg (show ¬ nI 23 = (20 : Int32) by decide), if_neg (show ¬ nI 23 = (21 : Int32) by decide), if_neg (show ¬ nI 23 = (24 : Int32) by decide), if_neg (show ¬ nI 23 < (20 : Int32) by decide), if_pos (show nI 23 ≤ (24 : Int32) by decide)]
theorem line_24 (hk : k < 403) (h11 : y.1 279 11 = nI k) (h : y.1 282 k = nI 24) : f_X11_line y = (f_X11_passes y).bind fun q5 => (f_X11_must (1 : Int32) q5).bind fun q8 => (f_X11_must (1 : Int32) q8).bind fun q12 => (f_X11_must (4 : Int32) q12).bind fun q15 => some q15 := by
  unfold f_X11_line
  rw [h11, if_pos (in_ok hk (by decide)), cl (by omega), h]
  simp only [m_jn, m_let, if_neg (show ¬ nI 24 = (20 : Int32) by decide), if_neg (show ¬ nI 24 = (21 : Int32) by decide), if_pos (show nI 24 = (24 : Int32) from rfl), if_neg (show ¬ nI 24 < (20 : Int32) by decide), if_pos (show nI 24 ≤ (24 : Int32) by decide)]
theorem line_1 (hk : k < 403) (h11 : y.1 279 11 = nI k) (he : e < 20) (h : y.1 282 k = nI e) : f_X11_line y = ((f_X11_fail (1 : Int32) y).bind fun q => some q) := by
  have n : ∀ e, e < 20 → ¬ nI e = (20 : Int32) ∧ ¬ nI e = (21 : Int32) ∧ nI e < (20 : Int32) := by decide +kernel
  obtain ⟨n1, n2, n3⟩ := n e he
  unfold f_X11_line
  rw [h11, if_pos (in_ok hk (by decide)), cl (by omega), h]
  simp only [m_jn, if_neg n1, if_neg n2, if_pos n3]
theorem lnS_rb {yb : mY} (h : lnS B b yb R k sh p l y) : lnS B b y R k sh p l y := ⟨yF_rf _ _, h.2⟩
theorem line_y (hM : yMt B b M y0) (hA : lnA B b y0 R k y) (k0 : kdK B b k ≠ 0) : ∃ y', f_X11_line y = some y' ∧ (lnB b y0 R y' ∨ ∃ k', k < k' ∧ lnA B b y0 R k' y') := by
  obtain ⟨a1, a2, a3, a4, a5, a6, a7, a8, a9, a10, a11⟩ := id hA
  have hMy := lnZ_M hM a1
  have hk := hMy.2.2 k a4 a5
  have m1 := hMy.1
  have h282 := (hMy.2.1 k hk).1
  have hkd : isKd (kdK B b k) := by
    have hS : tkS B b k < b := Classical.byContradiction fun z => k0 ((kdK_0 k).mpr z)
    rw [show kdK B b k = kdT B (tkS B b k) (tkE B b (tkS B b k)) from if_pos hS]
    exact kdT_k _ _
  have hc : kdK B b k < 20 ∨ kdK B b k = 20 ∨ kdK B b k = 21 ∨ (kdK B b k = 22 ∨ kdK B b k = 23) ∨ kdK B b k = 24 := by
    unfold isKd at hkd
    omega
  rcases hc with c | c | c | c | c
  · rw [line_1 (by omega) a3 c h282]
    rw [mcM_n k0, if_pos c] at a11
    exact fail_B hM hA (c := 1) (by decide) (by decide) (by rw [a11]) (by rw [a11])
  · rw [line_20 (by omega) a3 (by rw [h282, c]), a6]
    rw [mcM_n k0, if_neg (by omega)] at a11
    by_cases c8 : cNk (kdK B b) 20 k = 8
    · rw [if_pos (show nI (cNk (kdK B b) 20 k) = (8 : Int32) by rw [c8]; rfl)]
      rw [if_pos (Or.inr (Or.inl ⟨c, c8⟩))] at a11
      exact fail_B hM hA (c := 2) (by decide) (by decide) (by rw [a11]) (by rw [a11])
    · rw [if_neg (show ¬ nI (cNk (kdK B b) 20 k) = (8 : Int32) from fun z => c8 ((nI_eq (b := 8) (by omega) (by decide)).mp z))]
      have hR : R = if 400 ≤ k then (2, tkS B b k, k) else mcF B b mF (k + 1) [1, 4] (cNk (kdK B b) 20 k + 1) (cNk (kdK B b) 21 k) := by
        rw [a11]
        by_cases c4 : 400 ≤ k
        · rw [if_pos (Or.inl c4), if_pos c4]
        · rw [if_neg (by omega), if_neg c4, if_pos c, if_neg (by omega), c, shp_c.1]
      obtain ⟨y1, e1, s1⟩ := pass_s hMy (yF_rf lnW y) a2 a3 a4 a5 k0 hR
      rw [e1, Option.bind_some]
      have x1 := lnZ_F a1 s1.1
      have hM1 := lnZ_M hM x1
      have f19 : y1.1 279 19 = nI (cNk (kdK B b) 20 k) := by rw [s1.1.1 279 19 (by unfold lnW; omega)]; exact a6
      have f20 : y1.1 279 20 = nI (cNk (kdK B b) 21 k) := by rw [s1.1.1 279 20 (by unfold lnW; omega)]; exact a7
      have n1 : lnN B b k y1 := lnN_c a10 (by rw [s1.1.2])
      have no : ¬ (y1.1 279 12 = 0 ∧ kdK B b (k + 1) = 1) → f_X11_is (1 : Int32) y1 = some 0 → ∃ y', ((f_X11_is (1 : Int32) y1).bind fun q20 => if q20 = 0 then ((f_X11_must (1 : Int32) y1).bind fun q8 => (f_X11_must (4 : Int32) q8).bind fun q18 => some q18) else (if m_in (y1.1 279 11) 403 = true then (if m_in (y1.1 279 19) 8 = true then ((f_X11_must (1 : Int32) (m_ys (m_yl y1 287 (y1.1 279 19).toNatClampNeg (y1.2 285 (y1.1 279 11).toNatClampNeg)) 279 19 (((m_yl y1 287 (y1.1 279 19).toNatClampNeg (y1.2 285 (y1.1 279 11).toNatClampNeg)).1 279 19) + (1 : Int32)))).bind fun q8 => (f_X11_must (4 : Int32) q8).bind fun q18 => some q18) else none) else none)) = some y' ∧ (lnB b y0 R y' ∨ ∃ k', k < k' ∧ lnA B b y0 R k' y') := fun hno his => by
        rw [his, Option.bind_some, if_pos rfl]
        exact tail_20 hM x1 c (by omega) a9 f20 (lnS_rb s1) n1 (fun u v => absurd ⟨u, v⟩ hno)
      rcases s1.2 with ⟨b1, b2, b3, b4, b5⟩ | ⟨b1, b2, b3, b4, b5⟩
      · have nz : ¬ y1.1 279 12 = 0 := by rw [b4]; exact nI_n0 b1 b2
        exact no (fun z => nz z.1) (is_f nz)
      · have k1 := hM1.2.2 (k + 1) b3 b4
        have his : f_X11_is (1 : Int32) y1 = some (if kdK B b (k + 1) = 1 then 1 else 0) := is_ok (e := 1) hM1 b1 b2 k1 (by decide)
        by_cases d : kdK B b (k + 1) = 1
        · rw [his, Option.bind_some, if_pos d, if_neg (show ¬ (1 : Int32) = 0 by decide), b2, f19, if_pos (in_ok (by omega) (by decide)), if_pos (in_ok (by omega) (by decide)), cl (by omega), cl (by omega), (hM1.2.1 _ k1).2.2.1 d]
          obtain ⟨yb, hb⟩ : ∃ yb, m_ys (m_yl y1 287 (cNk (kdK B b) 20 k) (lN (vlw B 27 (tkS B b (k + 1)) (tkL B b (k + 1))))) 279 19 (((m_yl y1 287 (cNk (kdK B b) 20 k) (lN (vlw B 27 (tkS B b (k + 1)) (tkL B b (k + 1))))).1 279 19) + (1 : Int32)) = yb := ⟨_, rfl⟩
          rw [hb]
          have xb : lnZ y0 yb := by
            rw [← hb]
            refine lnZ_s ⟨x1.1, fun q hq => ?_⟩ ⟨rfl, by omega⟩
            rw [yl_ne hq]
            exact x1.2 q hq
          have o : ∀ c, c ≠ 19 → yb.1 279 c = y1.1 279 c := fun c hc => by
            rw [← hb, ys_ec hc]
            rfl
          have o2 : ∀ c, yb.2 287 c = if c = cNk (kdK B b) 20 k then lN (vlw B 27 (tkS B b (k + 1)) (tkL B b (k + 1))) else y1.2 287 c := fun c => by
            rw [← hb]
            exact yl_at y1 287 (cNk (kdK B b) 20 k) (lN (vlw B 27 (tkS B b (k + 1)) (tkL B b (k + 1)))) c
          refine tail_20 hM xb c (by omega) a9 (by rw [o 20 (by decide)]; exact f20) ⟨yF_rf _ _, Or.inr ⟨by rw [o 12 (by decide)]; exact b1, by rw [o 11 (by decide)]; exact b2, b3, b4, b5⟩⟩ (fun j hj hq => ?_) (fun _ _ => ⟨?_, ?_⟩)
          · rw [o2, if_neg (by have := cNk_lt hj hq; omega)]
            exact n1 j hj hq
          · rw [← hb, ys_eq]
            show y1.1 279 19 + 1 = _
            rw [f19, nI_1]
          · rw [o2, if_pos rfl]
        · rw [if_neg d] at his
          exact no (fun z => d z.2) his
  · rw [line_21 (by omega) a3 (by rw [h282, c]), a7]
    rw [mcM_n k0, if_neg (by omega)] at a11
    by_cases c8 : cNk (kdK B b) 21 k = 16
    · rw [if_pos (show nI (cNk (kdK B b) 21 k) = (16 : Int32) by rw [c8]; rfl)]
      rw [if_pos (Or.inr (Or.inr ⟨c, c8⟩))] at a11
      exact fail_B hM hA (c := 2) (by decide) (by decide) (by rw [a11]) (by rw [a11])
    · rw [if_neg (show ¬ nI (cNk (kdK B b) 21 k) = (16 : Int32) from fun z => c8 ((nI_eq (b := 16) (by omega) (by decide)).mp z))]
      have hR : R = if 400 ≤ k then (2, tkS B b k, k) else mcF B b mF (k + 1) [1, 1, 2, 4] (cNk (kdK B b) 20 k) (cNk (kdK B b) 21 k + 1) := by
        rw [a11]
        by_cases c4 : 400 ≤ k
        · rw [if_pos (Or.inl c4), if_pos c4]
        · rw [if_neg (by omega), if_neg c4, if_neg (by omega), if_pos c, c, shp_c.2.1]
      obtain ⟨y1, e1, s1⟩ := pass_s hMy (yF_rf lnW y) a2 a3 a4 a5 k0 hR
      rw [e1, Option.bind_some]
      exact tail_21 hM a1 c a8 (by omega) a6 a7 s1 a10
  · rw [line_22 (by omega) a3 c h282]
    rw [mcM_n k0, if_neg (by omega)] at a11
    have hR : R = if 400 ≤ k then (2, tkS B b k, k) else mcF B b mF (k + 1) [1, 4] (cNk (kdK B b) 20 k) (cNk (kdK B b) 21 k) := by
      rw [a11]
      by_cases c4 : 400 ≤ k
      · rw [if_pos (Or.inl c4), if_pos c4]
      · rw [if_neg (by omega), if_neg c4, if_neg (by omega), if_neg (by omega)]
        rcases c with c | c
        · rw [c, shp_c.2.2.1]
        · rw [c, shp_c.2.2.2.1]
    obtain ⟨y1, e1, s1⟩ := pass_s hMy (yF_rf lnW y) a2 a3 a4 a5 k0 hR
    rw [e1, Option.bind_some]
    exact tail_22 hM a1 c a8 a9 a6 a7 s1 a10
  · rw [line_24 (by omega) a3 (by rw [h282, c])]
    rw [mcM_n k0, if_neg (by omega)] at a11
    have hR : R = if 400 ≤ k then (2, tkS B b k, k) else mcF B b mF (k + 1) [1, 1, 4] (cNk (kdK B b) 20 k) (cNk (kdK B b) 21 k) := by
      rw [a11]
      by_cases c4 : 400 ≤ k
      · rw [if_pos (Or.inl c4), if_pos c4]
      · rw [if_neg (by omega), if_neg c4, if_neg (by omega), if_neg (by omega), c, shp_c.2.2.2.2]
    obtain ⟨y1, e1, s1⟩ := pass_s hMy (yF_rf lnW y) a2 a3 a4 a5 k0 hR
    rw [e1, Option.bind_some]
    exact tail_24 hM a1 c a8 a9 a6 a7 s1 a10
/-- all lines -/
theorem lines_y (hM : yMt B b M y0) (kk : mY → Option (Int32 × mY)) : ∀ n k (y : mY), 401 - k < n → (lnB b y0 R y ∨ lnA B b y0 R k y) → ∃ y', f_X11_read_L70 n y kk = kk y' ∧ (lnB b y0 R y' ∨ ∃ k', lnA B b y0 R k' y' ∧ kdK B b k' = 0)
  | 0, _, _, h, _ => absurd h (Nat.not_lt_zero _)
  | n + 1, k, y, hn, h => by
    rw [f_X11_read_L70]
    rcases h with h | h
    · have nz : ¬ y.1 279 12 = 0 := by rw [h.2.2.2.2.1]; exact nI_n0 h.2.1 h.2.2.1
      rw [if_neg nz]
      exact ⟨y, rfl, Or.inl h⟩
    · obtain ⟨a1, a2, a3, a4, a5, a6⟩ := id h
      have hMy := lnZ_M hM a1
      have his : f_X11_is (0 : Int32) y = some (if kdK B b k = 0 then 1 else 0) := is_ok (e := 0) hMy a2 a3 (hMy.2.2 k a4 a5) (by decide)
      rw [if_pos a2, his, Option.bind_some]
      by_cases c : kdK B b k = 0
      · rw [if_pos c, if_neg (show ¬ (1 : Int32) = 0 by decide)]
        exact ⟨y, rfl, Or.inr ⟨k, h, c⟩⟩
      · rw [if_neg c, if_pos rfl]
        obtain ⟨y1, e1, g | ⟨k', g1, g2⟩⟩ := line_y hM h c
        · rw [e1, Option.bind_some]
          exact lines_y hM kk n (k + 1) y1 (by omega) (Or.inl g)
        · rw [e1, Option.bind_some]
          exact lines_y hM kk n k' y1 (by omega) (Or.inr g2)
end TK
