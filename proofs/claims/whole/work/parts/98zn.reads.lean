/-! ===== the call read: what both do to the rest ===== -/
section TV
variable {B : Nat → Nat} {b N k np rt : Nat} {x x' x1 : mX} {y y' y1 : mY} {σ σ' : Nat → Int32}
def rdX (q c : Nat) : Prop := q = 1 ∨ (2 ≤ q ∧ q ≤ 6) ∨ (8 ≤ q ∧ q ≤ 13)
def rdY (q c : Nat) : Prop := (281 ≤ q ∧ q ≤ 288) ∨ (q = 279 ∧ c ≠ 17 ∧ c ≠ 18 ∧ c ≠ 26 ∧ c ≠ 27 ∧ c ≠ 30)
/-- a text with a fault -/
theorem IV_rd (h : IV np rt x y) (hx : eqX rdX x x') (hy : eqY rdY y y') (hK : y'.2 286 = y.2 286) (h0 : x'.1 1 0 = 0) (h2 : y'.1 279 2 = 0) (h1 : x'.1 1 1 = y'.1 279 16) : IV np rt x' y' := by
  obtain ⟨a1, a2, a3, a4, a5, a6, a7, a8, a9⟩ := h
  have rx : ∀ q, (∀ c, ¬ rdX q c) → x'.1 q = x.1 q := fun q hq => eqX_row hx hq
  have ry : ∀ q, (∀ c, ¬ rdY q c) → y'.1 q = y.1 q := fun q hq => eqY_row hy hq
  have e289 : y'.1 289 = y.1 289 := ry 289 (fun c => by unfold rdY; omega)
  refine ⟨?_, ?_, ?_, ?_, ?_, ?_, ?_, ?_, ?_⟩
  · rw [e289]
    exact hsR_cg (fun q q1 q2 => rx q (fun c => by unfold rdX; omega)) a1
  · exact iR_mo (hy 279 17 (by unfold rdY; omega)) (hy 279 18 (by unfold rdY; omega)) a2
  · exact iH_mo (fun q q1 q2 => rx q (fun c => by unfold rdX; omega)) (hy 279 26 (by unfold rdY; omega)) (hy 279 27 (by unfold rdY; omega)) (ry 290 (fun c => by unfold rdY; omega)) a3
  · exact iS_mo (hx 0 4 (by unfold rdX; omega)) (fun q q1 q2 => rx q (fun c => by unfold rdX; omega)) (ry 291 (fun c => by unfold rdY; omega)) (ry 292 (fun c => by unfold rdY; omega)) a4
  · exact ⟨0, by decide, h0, h2, fun i hi => absurd hi (Nat.not_lt_zero _), h1⟩
  · rw [e289]
    exact cP_mo (hx 0 6 (by unfold rdX; omega)) (fun q q1 q2 => rx q (fun c => by unfold rdX; omega)) (hx 256 0 (by unfold rdX; omega)) (hx 256 2 (by unfold rdX; omega)) (rx 257 (fun c => by unfold rdX; omega)) a6
  · rw [e289]
    exact cL_mo (hx 0 8 (by unfold rdX; omega)) (fun q q1 q2 => rx q (fun c => by unfold rdX; omega)) (hx 234 2 (by unfold rdX; omega)) (fun q q1 q2 => rx q (fun c => by unfold rdX; omega)) a7
  · exact kq_mo (hy 279 30 (by unfold rdY; omega)) (fun q hq => ry q (fun c => by unfold rdY; omega)) a8
  · unfold yKs
    rw [hK]
    exact a9
theorem nar255 (v : Int32) : vp_nar .byte v &&& 255 = v &&& 255 := by
  refine b_ext fun i hi => ?_
  rw [b_and, b_and]
  by_cases h8 : i < 8
  · have e : bt (vp_nar .byte v) i = bt v i := by
      show ((v.toBitVec.signExtend 8).signExtend 32).getLsbD i = v.toBitVec.getLsbD i
      rw [BitVec.getLsbD_signExtend, BitVec.getLsbD_signExtend]
      simp [h8, hi]
    rw [e]
  · have e : bt 255 i = false := (by decide +kernel : ∀ i, i < 32 → 8 ≤ i → bt 255 i = false) i hi (by omega)
    rw [e, Bool.and_false, Bool.and_false]
/-- the text's bytes -/
def Byt (y : mY) (i : Nat) : Nat := (y.1 280 i).toBitVec.toNat % 256
theorem Byt_e (y : mY) (i : Nat) : Byt y i < 256 ∧ y.1 280 i &&& 255 = nI (Byt y i) := ⟨Nat.mod_lt _ (by decide), pk_and _ 8 (by decide)⟩
theorem tape_L (kk : mY → Option (Int32 × mY)) (h4 : y.1 279 4 = nI b) (hb : b ≤ 2000) : ∃ y', f_X11_read_L10 mF 0 y kk = kk y' ∧ yF (fun q _ => q = 281) y y' ∧ ∀ i, i < b → y'.1 281 i = vp_nar .byte (y.1 280 i) := by
  refine lp_up b (fun n a (s : mY) => f_X11_read_L10 n a s kk) (fun j s => yF (fun q _ => q = 281) y s ∧ ∀ i, i < j → s.1 281 i = vp_nar .byte (y.1 280 i)) (fun o => ∃ y', o = kk y' ∧ yF (fun q _ => q = 281) y y' ∧ ∀ i, i < b → y'.1 281 i = vp_nar .byte (y.1 280 i)) ?_ ?_ mF 0 y (Nat.lt_of_le_of_lt hb (by decide)) (Nat.zero_le _) ⟨yF_rf _ _, fun c hc => absurd hc (Nat.not_lt_zero _)⟩
  · rintro n s ⟨f, hI⟩
    show ∃ y', f_X11_read_L10 (n + 1) (nI b) s kk = _ ∧ _
    rw [f_X11_read_L10, f.1 279 4 (by omega), h4, if_pos (nI_le (Nat.le_refl _) (by omega))]
    exact ⟨s, rfl, f, hI⟩
  · rintro n j s hj ⟨f, hI⟩ ih
    show ∃ y', f_X11_read_L10 (n + 1) (nI j) s kk = _ ∧ _
    rw [f_X11_read_L10, f.1 279 4 (by omega), h4, if_neg (nI_ge hj (by omega)), if_pos (in_ok (by omega) (by decide)), if_pos (in_ok (by omega) (by decide)), m_let, cl (by omega), nI_1, f.1 280 j (by omega)]
    refine ih _ ⟨yF_set f rfl, fun c hc => ?_⟩
    by_cases e : c = j
    · subst e
      rw [ys_eq]
    · rw [ys_ec e]
      exact hI c (by omega)
theorem copy_y (kk : mY → Option (Int32 × mY)) (y : mY) : ∃ y', f_X11_read_L190 mF 0 y kk = kk y' ∧ yF (fun q _ => q = 289) y y' ∧ ∀ i, i < 72 → y'.1 289 i = y.1 288 i := by
  refine lp_up 72 (fun n a (s : mY) => f_X11_read_L190 n a s kk) (fun j s => yF (fun q _ => q = 289) y s ∧ ∀ i, i < j → s.1 289 i = y.1 288 i) (fun o => ∃ y', o = kk y' ∧ yF (fun q _ => q = 289) y y' ∧ ∀ i, i < 72 → y'.1 289 i = y.1 288 i) ?_ ?_ mF 0 y (by decide) (by decide) ⟨yF_rf _ _, fun c hc => absurd hc (Nat.not_lt_zero _)⟩
  · rintro n s ⟨f, hI⟩
    show ∃ y', f_X11_read_L190 (n + 1) (nI 72) s kk = _ ∧ _
    rw [f_X11_read_L190, if_pos (by decide)]
    exact ⟨s, rfl, f, hI⟩
  · rintro n j s hj ⟨f, hI⟩ ih
    show ∃ y', f_X11_read_L190 (n + 1) (nI j) s kk = _ ∧ _
    rw [f_X11_read_L190, if_neg (show ¬ (72 : Int32) ≤ nI j from nI_ge (b := 72) hj (by decide)), if_pos (in_ok hj (by decide)), if_pos (in_ok hj (by decide)), m_let, cl (by omega), nI_1, f.1 288 j (by omega)]
    refine ih _ ⟨yF_set f rfl, fun c hc => ?_⟩
    by_cases e : c = j
    · subst e
      rw [ys_eq]
    · rw [ys_ec e]
      exact hI c (by omega)
theorem free_y (y : mY) : ∃ y', f_X11_read_L225 mF 0 y = some (0, y') ∧ yF (fun q _ => q = 292) y y' ∧ ∀ i, i < 3 → y'.1 292 i = 0 := by
  refine lp_up 3 (fun n a (s : mY) => f_X11_read_L225 n a s) (fun j s => yF (fun q _ => q = 292) y s ∧ ∀ i, i < j → s.1 292 i = 0) (fun o => ∃ y', o = some (0, y') ∧ yF (fun q _ => q = 292) y y' ∧ ∀ i, i < 3 → y'.1 292 i = 0) ?_ ?_ mF 0 y (by decide) (by decide) ⟨yF_rf _ _, fun c hc => absurd hc (Nat.not_lt_zero _)⟩
  · rintro n s ⟨f, hI⟩
    show ∃ y', f_X11_read_L225 (n + 1) (nI 3) s = _ ∧ _
    rw [f_X11_read_L225, if_pos (by decide)]
    exact ⟨s, rfl, f, hI⟩
  · rintro n j s hj ⟨f, hI⟩ ih
    show ∃ y', f_X11_read_L225 (n + 1) (nI j) s = _ ∧ _
    rw [f_X11_read_L225, if_neg (show ¬ (3 : Int32) ≤ nI j from nI_ge (b := 3) hj (by decide)), if_pos (in_ok hj (by decide)), m_let, cl (by omega), nI_1, nar_b 0 (Or.inl rfl)]
    refine ih _ ⟨yF_set f rfl, fun c hc => ?_⟩
    by_cases e : c = j
    · subst e
      rw [ys_eq]
    · rw [ys_ec e]
      exact hI c (by omega)
/-- states that agree -/
theorem sR_ag {X : Nat → Nat → Int32} {a : Nat} (h : ∀ c, c < 8 → σ' c = σ c) (hl : ∀ l, l < sm σ → σ' (8 + l) = σ (8 + l) ∧ σ' (24 + l) = σ (24 + l) ∧ σ' (40 + l) = σ (40 + l) ∧ σ' (56 + l) = σ (56 + l)) (k : sR X a σ np rt) : sR X a σ' np rt := by
  obtain ⟨r0, r1, r2, r3, r4, r5, r6, r7, r8, r9, rl⟩ := k
  unfold sR
  rw [sm_e (h 4 (by decide)), h 0 (by decide), h 1 (by decide), h 2 (by decide), h 3 (by decide), h 4 (by decide), h 5 (by decide), h 6 (by decide), h 7 (by decide)]
  refine ⟨r0, r1, r2, r3, r4, r5, r6, r7, r8, r9, fun l hl' => ?_⟩
  obtain ⟨g1, g2, g3, g4⟩ := hl l hl'
  rw [g1, g2, g3, g4]
  exact rl l hl'
theorem sW_ag (h : ∀ c, c < 8 → σ' c = σ c) (hl : ∀ l, l < sm σ → σ' (8 + l) = σ (8 + l) ∧ σ' (24 + l) = σ (24 + l) ∧ σ' (40 + l) = σ (40 + l) ∧ σ' (56 + l) = σ (56 + l)) (k : sW σ np) : sW σ' np := sW_sg k (by rw [h 0 (by decide)]; exact k.2.2.2.1) (h 2 (by decide)) (h 3 (by decide)) (h 4 (by decide)) (fun l hl' => ⟨(hl l hl').1, (hl l hl').2.1⟩) (fun l hl' => by rw [(hl l hl').2.2.1]; exact k.2.2.2.2.2.2.2.2 l hl')
theorem nf_T (h : nfX B b N) : ixT B b N = iyT B b N := funext fun t => nf_ix h (fsT_ok (K := kdK B b) (W := Wd B b) (w := Wd B b t) N).1
/-- the class's reading of a text -/
def psO (B : Nat → Nat) (b N : Nat) (x : mX) (F : Nat × Nat) (o : Option (Int32 × mX)) : Prop := (F.1 = 0 ∧ ∃ x', o = some (0, x') ∧ eqX rdX x x' ∧ x'.1 1 0 = 0 ∧ x'.1 1 1 = -1 ∧ fnX B b N x') ∨ (¬ F.1 = 0 ∧ ∃ x', o = some (nI F.1, x') ∧ eqX rdX x x' ∧ x'.1 1 0 = 0 ∧ x'.1 1 1 = nI (tkS B b F.2))
theorem parse_1 (h : tpBx B b x) (hR : ¬ (mcF B b mF 0 [] 0 0).1 = 0) : ∃ x', f_X5_parse x = some (nI (mcF B b mF 0 [] 0 0).1, x') ∧ eqX rdX x x' ∧ x'.1 1 0 = 0 ∧ x'.1 1 1 = nI (mcF B b mF 0 [] 0 0).2.1 := by
  have hB : tpBx B b (m_xs x 1 1 (-1)) := ⟨h.1, by rw [xs_ec (by decide)]; exact h.2.1, fun i hi => by rw [xs_ne (by decide)]; exact h.2.2 i hi⟩
  unfold f_X5_parse
  rw [m_let]
  rcases split_x hB with ⟨z, _⟩ | ⟨_, z6, zb, x2, e2, f2, p2⟩
  · exact absurd z hR
  · rw [e2, Option.bind_some]
    dsimp only
    rw [m_jn]
    dsimp only
    rw [if_neg (nI_n0 hR z6), if_neg (nI_n0 hR z6), m_let]
    refine ⟨_, rfl, fun q c hq => ?_, xs_eq _ _ _ _, by rw [xs_ec (by decide)]; exact p2⟩
    unfold rdX at hq
    rw [xs_ne (by omega), f2 q c (by unfold spW; omega) (by omega), xs_ne (by omega)]
theorem parse_2 (h : tpBx B b x) (hR : (mcF B b mF 0 [] 0 0).1 = 0) (hN : (mcF B b mF 0 [] 0 0).2.2 = N) (ht : txK (kdK B b) N) : psO B b N x (ffF (lfT B b N) N) (f_X5_parse x) := by
  have hB : tpBx B b (m_xs x 1 1 (-1)) := ⟨h.1, by rw [xs_ec (by decide)]; exact h.2.1, fun i hi => by rw [xs_ne (by decide)]; exact h.2.2 i hi⟩
  unfold f_X5_parse
  rw [m_let]
  rcases split_x hB with ⟨_, x2, e2, f2, h4, _, _, tk⟩ | ⟨z, _⟩
  · rw [hN] at h4 tk
    have hT : xTk B b N x2 := ⟨h4, tk⟩
    rw [e2, Option.bind_some]
    dsimp only
    rw [m_jn]
    dsimp only
    rw [if_pos rfl]
    obtain ⟨x3, e3, g3, n3, z16, r12, z13⟩ := gather_x ht hT
    rw [e3, Option.bind_some]
    have hG : tlG B b N x3 := ⟨ht, gaF_T hT g3, n3, r12⟩
    have f3 : ∀ q c, ¬ rdX q c → x3.1 q c = x.1 q c := fun q c hq => by
      unfold rdX at hq
      rw [g3.1 q c (by unfold gaW; omega), f2 q c (by unfold spW; omega), xs_ne (by omega)]
    have p3 : x3.1 1 1 = -1 := by rw [g3.1 1 1 (by unfold gaW; omega), f2 1 1 (by unfold spW; omega), xs_eq]
    rcases tell_x hG z16 z13 with ⟨a1, x4, e4, i4⟩ | ⟨a1, x4, e4, f4, p4⟩
    · rw [e4, Option.bind_some]
      dsimp only
      rw [if_pos rfl]
      obtain ⟨x5, e5, f5, n5⟩ := finish_x ht (ffF_no a1) i4.2
      rw [e5, Option.bind_some, m_let]
      have o : ∀ q, q ≠ 1 → (m_xs x5 1 0 0).1 q = x5.1 q := fun q hq => xs_ne hq
      refine Or.inl ⟨a1, _, rfl, fun q c hq => ?_, xs_eq _ _ _ _, ?_, ?_⟩
      · have hq' := hq
        unfold rdX at hq
        rw [xs_ne (by omega), f5.1 q c (by omega), i4.1.1 q c (by unfold tlW; omega)]
        exact f3 q c hq'
      · rw [xs_ec (by decide), f5.1 1 1 (by omega), i4.1.1 1 1 (by unfold tlW; omega)]
        exact p3
      · have sg : sgX (m_xs x5 1 0 0) = sgX x5 := by
          funext c
          unfold sgX
          rw [o 2 (by decide), o 3 (by decide), o 4 (by decide), o 5 (by decide), o 6 (by decide)]
        obtain ⟨c1, c2, c3, c4, c5, c6, c7, c8, c9⟩ := n5
        unfold fnX
        rw [sg, o 2 (by decide)]
        exact ⟨c1, c2, c3, c4, c5, lkX_c c6 (o 3 (by decide)) (o 4 (by decide)) (o 5 (by decide)) (o 6 (by decide)), c7, c8, sR_cg (fun q q1 q2 => o q (by omega)) c9⟩
    · have lc := (ffF_c (W := Wd B b) (V := Vd B b) ht (Nat.le_refl _) a1).2.1
      rw [e4, Option.bind_some]
      dsimp only
      rw [if_neg (nI_n0 a1 lc), m_let]
      refine Or.inr ⟨a1, _, rfl, fun q c hq => ?_, xs_eq _ _ _ _, by rw [xs_ec (by decide)]; exact p4⟩
      have hq' := hq
      unfold rdX at hq
      rw [xs_ne (by omega), f4.1 q c (by unfold tlW; omega)]
      exact f3 q c hq'
  · exact absurd hR z
end TV
