/-! ===== the call read, both ===== -/
section TX
variable {np rt : Nat} {x : mX} {y : mY}
theorem st_read (h : IV np rt x y) : sam (f_X10_read x) (f_X11_read y) := by
  obtain ⟨b, hb, hx0, hy2, ht7, hp⟩ := id h.2.2.2.2.1
  have hKs := h.2.2.2.2.2.2.2.2
  obtain ⟨B, hBd⟩ : ∃ B, Byt y = B := ⟨_, rfl⟩
  have hBx : tpBx B b x := ⟨hb, hx0, fun i hi => by
    rw [ht7 i hi, ← hBd]
    exact Byt_e y i⟩
  -- the reference up to its tokens
  unfold f_X11_read
  rw [m_let, hy2]
  obtain ⟨y1, hy1⟩ : ∃ y1, m_ys y 279 4 (nI b) = y1 := ⟨_, rfl⟩
  rw [hy1]
  have q1 : ∀ q c, ¬ (q = 279 ∧ c = 4) → y1.1 q c = y.1 q c := fun q c hq => by
    rw [← hy1]
    by_cases e : q = 279
    · subst e
      rw [ys_ec (by omega)]
    · rw [ys_ne e]
  have l1 : y1.2 = y.2 := by rw [← hy1]; rfl
  obtain ⟨y3, e3, f3, z3⟩ := tape_L (y := y1) (b := b) _ (by rw [← hy1, ys_eq]) hb
  rw [e3, m_let]
  obtain ⟨y4, hy4⟩ : ∃ y4, m_ys y3 279 2 0 = y4 := ⟨_, rfl⟩
  rw [hy4]
  have q4 : ∀ q c, ¬ (q = 281 ∨ (q = 279 ∧ (c = 2 ∨ c = 4))) → y4.1 q c = y.1 q c := fun q c hq => by
    rw [← hy4]
    by_cases e : q = 279
    · subst e
      rw [ys_ec (by omega), f3.1 _ _ (by omega), q1 _ _ (by omega)]
    · rw [ys_ne e, f3.1 _ _ (by omega), q1 _ _ (by omega)]
  have l4 : y4.2 = y.2 := by
    rw [← hy4]
    show y3.2 = _
    rw [f3.2, l1]
  have c42 : y4.1 279 2 = 0 := by rw [← hy4, ys_eq]
  have hBy : tpBy B b y4 := by
    refine ⟨hb, ?_, fun i hi => ?_⟩
    · rw [← hy4, ys_ec (by decide), f3.1 279 4 (by omega), ← hy1, ys_eq]
    · rw [← hy4, ys_ne (by decide), z3 i hi, nar255, q1 280 i (by omega), ← hBd]
      exact Byt_e y i
  have hK4 : yKs y4 := by
    unfold yKs
    rw [l4]
    exact hKs
  obtain ⟨y5, e5, M, hE⟩ := parts_y hBy hK4
  rw [e5, Option.bind_some, m_let, m_let, m_let, m_let, m_let]
  obtain ⟨y10, hy10⟩ : ∃ y10, m_ys (m_ys (m_ys (m_ys (m_ys y5 279 11 0) 279 12 0) 279 14 0) 279 19 0) 279 20 0 = y10 := ⟨_, rfl⟩
  rw [hy10]
  have q10 : ∀ q c, ¬ (q = 279 ∧ (c = 11 ∨ c = 12 ∨ c = 14 ∨ c = 19 ∨ c = 20)) → y10.1 q c = y5.1 q c := fun q c hq => by
    rw [← hy10]
    by_cases e : q = 279
    · subst e
      rw [ys_ec (by omega), ys_ec (by omega), ys_ec (by omega), ys_ec (by omega), ys_ec (by omega)]
    · rw [ys_ne e, ys_ne e, ys_ne e, ys_ne e, ys_ne e]
  have r10 : ∀ q, q ≠ 279 → y10.1 q = y5.1 q := fun q hq => funext fun c => q10 q c (by omega)
  have l10 : y10.2 = y5.2 := by rw [← hy10]; rfl
  have a11 : y10.1 279 11 = 0 := by rw [← hy10, ys_ec (by decide), ys_ec (by decide), ys_ec (by decide), ys_ec (by decide), ys_eq]
  have a12 : y10.1 279 12 = 0 := by rw [← hy10, ys_ec (by decide), ys_ec (by decide), ys_ec (by decide), ys_eq]
  have a14 : y10.1 279 14 = 0 := by rw [← hy10, ys_ec (by decide), ys_ec (by decide), ys_eq]
  have a19 : y10.1 279 19 = 0 := by rw [← hy10, ys_ec (by decide), ys_eq]
  have a20 : y10.1 279 20 = 0 := by rw [← hy10, ys_eq]
  have hM : yMt B b M y10 := yMt_c (yMt_e hE) (r10 282 (by decide)) (r10 283 (by decide)) (r10 284 (by decide)) (by rw [l10])
  obtain ⟨R, hR⟩ : ∃ R, mcF B b mF 0 [] 0 0 = R := ⟨_, rfl⟩
  have hA : lnA B b y10 R 0 y10 := ⟨⟨fun _ _ _ => rfl, fun _ _ => rfl⟩, a12, a11, by decide, fun j hj => absurd hj (Nat.not_lt_zero _), a19, a20, Nat.zero_le _, Nat.zero_le _, fun j hj => absurd hj (Nat.not_lt_zero _), hR.symm⟩
  -- frames of the reference
  have fr5 : ∀ q c, ¬ rdY q c → y5.1 q c = y.1 q c := fun q c hq => by
    unfold rdY at hq
    rw [hE.1.1 q c (by unfold tkW; omega), q4 q c (by omega)]
  have fr13 : ∀ y13 : mY, lnZ y10 y13 → (∀ q c, ¬ rdY q c → y13.1 q c = y.1 q c) ∧ y13.2 286 = y.2 286 ∧ y13.1 279 2 = 0 := fun y13 hz => by
    refine ⟨fun q c hq => ?_, ?_, ?_⟩
    · have hq' := hq
      unfold rdY at hq
      rw [hz.1 q c (by unfold lnV; omega), q10 q c (by omega)]
      exact fr5 q c hq'
    · rw [hz.2 286 (by decide), l10, hE.1.2.1 286 (by decide), l4]
    · rw [hz.1 279 2 (by unfold lnV; omega), q10 279 2 (by omega), hE.1.1 279 2 (by unfold tkW; omega)]
      exact c42
  obtain ⟨y13, e13, hB13 | ⟨k', hA13, k0⟩⟩ := lines_y hM _ mF 0 y10 (by decide) (Or.inr hA)
  · -- a fault of the lines
    rw [e13]
    obtain ⟨b1, b2, b3, b4, b5, b6⟩ := hB13
    obtain ⟨fr, fk, f2⟩ := fr13 y13 b1
    obtain ⟨x1, ex, fx, x10, x11⟩ := parse_1 hBx (by rw [hR]; exact b2)
    rw [hR] at ex x11
    have nz : ¬ y13.1 279 12 = 0 := by rw [b5]; exact nI_n0 b2 b3
    have nle : ¬ y13.1 279 12 ≤ 0 := by rw [b5]; exact nI_nle (by omega) (by omega)
    unfold f_X10_read
    rw [ex, Option.bind_some, m_jn]
    dsimp only
    rw [if_neg nz, if_neg (nI_n0 b2 b3), m_jn]
    dsimp only
    rw [if_neg nle, m_let, ys_ec (show 12 ≠ 16 by decide), if_neg nle, b5, b6]
    refine ⟨_, _, _, rfl, rfl, np, rt, IV_rd h fx (fun q c hq => ?_) fk x10 ?_ ?_⟩
    · have hq' := hq
      unfold rdY at hq
      by_cases e : q = 279
      · subst e
        rw [ys_ec (by omega)]
        exact fr _ _ hq'
      · rw [ys_ne e]
        exact fr _ _ hq'
    · rw [ys_ec (by decide)]
      exact f2
    · rw [ys_eq]
      exact x11
  · rw [e13]
    obtain ⟨c1, c2, c3, c4, c5, c6, c7, c8, c9, c10, c11⟩ := hA13
    obtain ⟨fr, fk, f2⟩ := fr13 y13 c1
    have hRe : R = (0, 0, k') := by rw [c11, mcM_e k0, if_pos rfl]
    have hR1 : (mcF B b mF 0 [] 0 0).1 = 0 := by rw [hR, hRe]
    have hR2 : (mcF B b mF 0 [] 0 0).2.2 = k' := by rw [hR, hRe]
    have ht : txK (kdK B b) k' := tx_ok hR1 hR2 c4 k0 c8 c9
    have kM := hM.2.2 k' c4 c5
    have eM : M = k' + 1 := by
      have u : ¬ k' + 1 < M := fun z => hE.2.2.1 k' z k0
      omega
    have hM13 := lnZ_M hM c1
    have hG : ymG B b k' y13 := by
      refine ⟨ht, c5, hb, fun j hj => hM13.2.1 j (by omega), ?_, c2, c6, c10⟩
      rw [c1.1 279 10 (by unfold lnV; omega), q10 279 10 (by omega), hE.1.2.2.1, eM]
    obtain ⟨y28, e28, f28, s28, n28⟩ := means_y hG (by rw [c1.1 279 14 (by unfold lnV; omega)]; exact a14)
    have fr28 : ∀ q c, ¬ rdY q c → y28.1 q c = y.1 q c := fun q c hq => by
      have hq' := hq
      unfold rdY at hq
      rw [f28.1 q c (by unfold mnW; omega)]
      exact fr q c hq'
    have fk28 : y28.2 286 = y.2 286 := by rw [f28.2]; exact fk
    have f228 : y28.1 279 2 = 0 := by rw [f28.1 279 2 (by unfold mnW; omega)]; exact f2
    have z12 : y28.1 279 12 = 0 := by rw [f28.1 279 12 (by unfold mnW; omega)]; exact c2
    have le12 : y28.1 279 12 ≤ 0 := by rw [z12]; decide
    have fr18 : ∀ (w : Int32) q c, ¬ rdY q c → (m_ys y28 279 16 w).1 q c = y.1 q c := fun w q c hq => by
      have hq' := hq
      unfold rdY at hq
      by_cases e : q = 279
      · subst e
        rw [ys_ec (by omega)]
        exact fr28 _ _ hq'
      · rw [ys_ne e]
        exact fr28 _ _ hq'
    rw [m_jn]
    dsimp only
    rw [if_pos c2, e28, Option.bind_some, m_jn]
    dsimp only
    rw [if_pos le12]
    unfold f_X10_read
    rcases parse_2 hBx hR1 hR2 ht with ⟨d1, x1, ex, fx, x10, x11, xf⟩ | ⟨d1, x1, ex, fx, x10, x11⟩
    · have z14 : y28.1 279 14 = 0 := by rw [s28.1, d1]; rfl
      have le14 : y28.1 279 14 ≤ 0 := by rw [z14]; decide
      rw [ex, Option.bind_some]
      dsimp only
      rw [if_pos rfl, if_pos le14, m_let, ys_ec (show 12 ≠ 16 by decide), if_pos le12, ys_ec (show 14 ≠ 16 by decide), if_pos le14]
      have hen := n28 d1
      have r288 : (m_ys y28 279 16 (-1)).1 288 = y28.1 288 := ys_ne (by decide)
      refine good_x ht (ffF_no d1) h fx x10 x11 xf (fr18 (-1)) fk28 (by rw [ys_ec (by decide)]; exact f228) (ys_eq _ _ _ _) ?_ ?_
      · rw [ys_ec (by decide), f28.1 279 19 (by unfold mnW; omega)]
        exact c6
      · obtain ⟨g1, g2, g3, g4, g5, g6, g7⟩ := hen
        refine ⟨by rw [r288]; exact g1, by rw [r288]; exact g2, by rw [ys_ec (by decide)]; exact g3, by rw [r288]; exact g4, by rw [r288]; exact g5, lkY_c g6 (fun c _ => by rw [r288]), by rw [r288]; exact g7⟩
    · have n14 : ¬ y28.1 279 14 ≤ 0 := by rw [s28.1]; exact nI_nle (by omega) (by have := s28.2.1; omega)
      have s6 := s28.2.1
      rw [ex, Option.bind_some]
      dsimp only
      rw [if_neg (nI_n0 d1 s6), if_neg n14, m_let, ys_ec (show 12 ≠ 16 by decide), if_pos le12, ys_ec (show 14 ≠ 16 by decide), if_neg n14, s28.1]
      refine ⟨_, _, _, rfl, rfl, np, rt, IV_rd h fx (fr18 _) fk28 x10 ?_ ?_⟩
      · rw [ys_ec (by decide)]
        exact f228
      · rw [ys_eq, s28.2.2 d1]
        exact x11
end TX
