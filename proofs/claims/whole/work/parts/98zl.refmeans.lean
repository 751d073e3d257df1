/-! ===== the text: the reference's meaning, line by line ===== -/
section TT
variable {B : Nat → Nat} {b N k t t' c m : Nat} {y y' y0 y1 : mY} {R : Nat × Nat}
def lkY (B : Nat → Nat) (b N k : Nat) (y : mY) : Prop := ∀ j, j < k → kdK B b j = 21 → y.1 288 (8 + cNk (kdK B b) 21 j) = nI (iyT B b N (j + 1)) ∧ y.1 288 (24 + cNk (kdK B b) 21 j) = nI (iyT B b N (j + 2)) ∧ y.1 288 (40 + cNk (kdK B b) 21 j) = nI (Vd B b (j + 3))
/-- the reference's state after the lines ahead of k, if none had a fault -/
def frY (B : Nat → Nat) (b N k : Nat) (y : mY) : Prop := (∀ i, bt (y.1 288 0) i = true ↔ i < cNk (kdK B b) 20 N ∧ ¬ ofK (kdK B b) (iyT B b N) k i) ∧ (∀ l, bt (y.1 288 1) l = true ↔ l < cNk (kdK B b) 21 k) ∧ y.1 279 21 = nI (rtK (kdK B b) (iyT B b N) k) ∧ (∀ c, c = 2 ∨ c = 3 ∨ c = 5 ∨ c = 6 ∨ c = 7 → y.1 288 c = 0) ∧ lkY B b N k y ∧ ∀ l, l < 16 → y.1 288 (56 + l) = 0
/-- the faults of the lines -/
def lfT (B : Nat → Nat) (b N : Nat) : Nat → Nat × Nat := lnF (kdK B b) (Wd B b) (Vd B b) N
def mnI (B : Nat → Nat) (b N : Nat) (y0 : mY) (k : Nat) (y : mY) : Prop := yF mnW y0 y ∧ stW B b (ffF (lfT B b N) k) y ∧ y.1 288 4 = nI (cNk (kdK B b) 21 k) ∧ ((ffF (lfT B b N) k).1 = 0 → frY B b N k y)
theorem lkY_n (h : lkY B b N k y) (hq : ¬ kdK B b k = 21) : lkY B b N (k + 1) y := fun j hj h21 => by
  by_cases e : j = k
  · exact absurd (e ▸ h21) hq
  · exact h j (by omega) h21
theorem lkY_c (h : lkY B b N k y) (e : ∀ c, 8 ≤ c → y1.1 288 c = y.1 288 c) : lkY B b N k y1 := fun j hj h21 => by
  rw [e _ (by omega), e _ (by omega), e _ (by omega)]
  exact h j hj h21
theorem frY_n (h : frY B b N k y) (h21 : ¬ kdK B b k = 21) (h22 : ¬ kdK B b k = 22) (h23 : ¬ kdK B b k = 23) : frY B b N (k + 1) y := by
  obtain ⟨a1, a2, a3, a4, a5, a6⟩ := h
  refine ⟨fun i => by rw [ofK_n h22]; exact a1 i, by rw [cNk_n h21]; exact a2, ?_, a4, lkY_n a5 h21, a6⟩
  rw [show rtK (kdK B b) (iyT B b N) (k + 1) = rtK (kdK B b) (iyT B b N) k from if_neg h23]
  exact a3
theorem frY_w (h : frY B b N k y) (f : yF wrW y y1) : frY B b N k y1 := by
  have r : y1.1 288 = y.1 288 := yF_row f (fun c => by unfold wrW; omega)
  obtain ⟨a1, a2, a3, a4, a5, a6⟩ := h
  refine ⟨by rw [r]; exact a1, by rw [r]; exact a2, by rw [f.1 279 21 (by unfold wrW; omega)]; exact a3, by rw [r]; exact a4, lkY_c a5 (fun c _ => by rw [r]), by rw [r]; exact a6⟩
theorem ff_lt (hG : ymG B b N y0) (hk : k < N) (h20 : 20 ≤ kdK B b k) : ¬ (ffF (lfT B b N) k).1 = 0 → (ffF (lfT B b N) k).2 < k := fun z => (ffF_c (W := Wd B b) (V := Vd B b) hG.1 (show k ≤ N by omega) z).2.2 h20
theorem ff_0 (h : (ffF (lfT B b N) (k + 1)).1 = 0) : (ffF (lfT B b N) k).1 = 0 ∧ (lfT B b N k).1 = 0 := by
  have a : (ffF (lfT B b N) k).1 = 0 := Classical.byContradiction fun z => by
    rw [ffF_1 z] at h
    exact z h
  rw [ffF_0 a] at h
  exact ⟨a, h⟩
/-- a line that tells nothing but faults -/
theorem mnI_w (hI : mnI B b N y0 k y) (f : yF wrW y y1) (hs : stW B b (ffF (lfT B b N) (k + 1)) y1) (h21 : ¬ kdK B b k = 21) (h22 : ¬ kdK B b k = 22) (h23 : ¬ kdK B b k = 23) : mnI B b N y0 (k + 1) y1 := by
  obtain ⟨a1, a2, a3, a4⟩ := hI
  refine ⟨yF_tr a1 (yF_mo f (fun q c hq => wr_mn hq)), hs, ?_, fun z => frY_n (frY_w (a4 (ff_0 z).1) f) h21 h22 h23⟩
  rw [f.1 288 4 (by unfold wrW; omega), cNk_n h21]
  exact a3
theorem mnI_n (hI : mnI B b N y0 k y) (h : kdK B b k < 20) : mnI B b N y0 (k + 1) y := by
  refine mnI_w hI (yF_rf _ _) ?_ (by omega) (by omega) (by omega)
  have lf : lfT B b N k = (0, 0) := lnF_0 h
  by_cases c0 : (ffF (lfT B b N) k).1 = 0
  · rw [ffF_0 c0, lf]
    exact stW_0 hI.2.1 c0 rfl
  · rw [ffF_1 c0]
    exact hI.2.1
/-- off -/
theorem mnI_22 (hG : ymG B b N y0) (hI : mnI B b N y0 k y) (hk : k < N) (c : kdK B b k = 22) : ∃ z y2, f_X11_known (nI (k + 1)) y = some (cdY B b N (k + 1), z) ∧ (if cdY B b N (k + 1) < 0 then z else m_ys z 288 0 ((z.1 288 0) &&& (((1 : Int32) <<< ((cdY B b N (k + 1)) &&& 31)) ^^^ (-1 : Int32)))) = y2 ∧ mnI B b N y0 (k + 1) y2 := by
  obtain ⟨a1, a2, a3, a4⟩ := hI
  have hGy := ymG_F hG a1
  have g1 := hG.1
  have t1 := g1.2.1 k hk (Or.inr (Or.inl c))
  have hR := ff_lt hG hk (show 20 ≤ kdK B b k by omega)
  obtain ⟨z, e1, f1, s1⟩ := known_s hGy a2 t1.2 t1.1 (fun u => by have := hR u; omega)
  refine ⟨z, _, e1, rfl, ?_⟩
  have lf : lfT B b N k = if fpT B b N (k + 1) < N then (0, 0) else (4, k + 1) := lnF_22 (Or.inl c)
  have fz : yF mnW y0 z := yF_tr a1 (yF_mo f1 (fun q c hq => wr_mn hq))
  by_cases kn : fpT B b N (k + 1) < N
  · have i8 := iy_8 g1 kn
    rw [if_pos kn] at s1 lf
    have ss : stW B b (ffF (lfT B b N) (k + 1)) z := by
      rw [← nx_f]
      exact st_nx s1 (fun c0 => Or.inr ⟨c0, by rw [lf]⟩) (fun _ => rfl)
    rw [if_neg (fun u => absurd kn ((cd_lt g1).mp u)), cdY_y kn]
    refine ⟨yF_set fz (Or.inr rfl), stW_c ss (by rw [ys_ne (by decide)]) (by rw [ys_ne (by decide)]), ?_, fun u => ?_⟩
    · rw [ys_ec (by decide), f1.1 288 4 (by unfold wrW; omega), cNk_n (by omega)]
      exact a3
    · obtain ⟨b1, b2, b3, b4, b5, b6⟩ := frY_w (a4 (ff_0 u).1) f1
      refine ⟨fun i => ?_, fun l => by rw [ys_ec (by decide), cNk_n (by omega)]; exact b2 l, ?_, fun c hc => by rw [ys_ec (by omega)]; exact b4 c hc, lkY_n (lkY_c b5 (fun c hc => ys_ec (by omega))) (by omega), fun l hl => by rw [ys_ec (by omega)]; exact b6 l hl⟩
      · rw [ys_eq, b_wo (by omega), Bool.and_eq_true, b1 i, ofK_y c, Bool.not_eq_true', decide_eq_false_iff_not]
        exact ⟨fun v => ⟨v.1.1, fun w => w.elim v.1.2 v.2⟩, fun v => ⟨⟨v.1, fun w => v.2 (Or.inl w)⟩, fun w => v.2 (Or.inr w)⟩⟩
      · rw [ys_ne (by decide), show rtK (kdK B b) (iyT B b N) (k + 1) = rtK (kdK B b) (iyT B b N) k from if_neg (by omega)]
        exact b3
  · rw [if_neg kn] at s1 lf
    rw [if_pos ((cd_lt g1).mpr kn)]
    have ss : stW B b (ffF (lfT B b N) (k + 1)) z := by
      rw [← nx_f]
      exact st_nx s1 (fun c0 => Or.inl (by rw [rp_0 c0, lf])) (fun c0 => rp_1 c0)
    refine ⟨fz, ss, ?_, fun u => ?_⟩
    · rw [f1.1 288 4 (by unfold wrW; omega), cNk_n (by omega)]
      exact a3
    · have v := (ff_0 u).2
      rw [lf] at v
      exact absurd v (show ¬ (4 = 0) by decide)
/-- root -/
theorem mnI_23 (hG : ymG B b N y0) (hI : mnI B b N y0 k y) (hk : k < N) (c : kdK B b k = 23) : ∃ z, f_X11_known (nI (k + 1)) y = some (cdY B b N (k + 1), z) ∧ mnI B b N y0 (k + 1) (m_ys z 279 21 (cdY B b N (k + 1))) := by
  obtain ⟨a1, a2, a3, a4⟩ := hI
  have hGy := ymG_F hG a1
  have g1 := hG.1
  have t1 := g1.2.1 k hk (Or.inr (Or.inr c))
  have hR := ff_lt hG hk (show 20 ≤ kdK B b k by omega)
  obtain ⟨z, e1, f1, s1⟩ := known_s hGy a2 t1.2 t1.1 (fun u => by have := hR u; omega)
  refine ⟨z, e1, ?_⟩
  have lf : lfT B b N k = if fpT B b N (k + 1) < N then (0, 0) else (4, k + 1) := lnF_22 (Or.inr c)
  have fz : yF mnW y0 z := yF_tr a1 (yF_mo f1 (fun q c hq => wr_mn hq))
  have ss : stW B b (ffF (lfT B b N) (k + 1)) z := by
    rw [← nx_f]
    by_cases kn : fpT B b N (k + 1) < N
    · rw [if_pos kn] at s1 lf
      exact st_nx s1 (fun c0 => Or.inr ⟨c0, by rw [lf]⟩) (fun _ => rfl)
    · rw [if_neg kn] at s1 lf
      exact st_nx s1 (fun c0 => Or.inl (by rw [rp_0 c0, lf])) (fun c0 => rp_1 c0)
  refine ⟨yF_set fz (Or.inl ⟨rfl, by omega⟩), stW_c ss (by rw [ys_ec (by decide)]) (by rw [ys_ec (by decide)]), ?_, fun u => ?_⟩
  · rw [ys_ne (by decide), f1.1 288 4 (by unfold wrW; omega), cNk_n (by omega)]
    exact a3
  · have kn : fpT B b N (k + 1) < N := Classical.byContradiction fun v => by
      have w := (ff_0 u).2
      rw [lf, if_neg v] at w
      exact absurd w (show ¬ (4 = 0) by decide)
    obtain ⟨b1, b2, b3, b4, b5, b6⟩ := frY_w (a4 (ff_0 u).1) f1
    have r : (m_ys z 279 21 (cdY B b N (k + 1))).1 288 = z.1 288 := ys_ne (by decide)
    refine ⟨fun i => by rw [r, ofK_n (by omega)]; exact b1 i, fun l => by rw [r, cNk_n (by omega)]; exact b2 l, ?_, by rw [r]; exact b4, lkY_n (lkY_c b5 (fun c _ => by rw [r])) (by omega), by rw [r]; exact b6⟩
    rw [ys_eq, show rtK (kdK B b) (iyT B b N) (k + 1) = iyT B b N (k + 1) from if_pos c, cdY_y kn]
/-- link -/
theorem mnI_21 (hG : ymG B b N y0) (hI : mnI B b N y0 k y) (hk : k < N) (c : kdK B b k = 21) : ∃ y1, f_X11_meansLink (nI k) y = some y1 ∧ mnI B b N y0 (k + 1) y1 := by
  obtain ⟨a1, a2, a3, a4⟩ := hI
  have hGy := ymG_F hG a1
  have g1 := hG.1
  have m16 := g1.2.2.2.2.2.1
  have mlt := cNk_lt hk c
  obtain ⟨y2, y1, f2, e1, ⟨w1, w2, w3, ⟨w4, w5, w6⟩, w7⟩, s2⟩ := mlink_y hGy a2 hk c (ff_lt hG hk (by omega)) (m := cNk (kdK B b) 21 k) (by omega) a3
  refine ⟨y1, e1, yF_tr a1 (yF_tr (yF_mo f2 (fun q c hq => wr_mn hq)) (yF_mo w1 (fun q c hq => Or.inr hq))), ?_, by rw [w2, cNk_y c], fun u => ?_⟩
  · refine stW_c (y0 := y2) ?_ (w1.1 279 14 (by omega)) (w1.1 279 15 (by omega))
    rw [← nx_f]
    exact s2
  · obtain ⟨u1, u2⟩ := ff_0 u
    obtain ⟨k1, k2, k3⟩ := kn_no (Or.inl c) u2
    obtain ⟨b1, b2, b3, b4, b5, b6⟩ := frY_w (a4 u1) f2
    rw [cdY_y k1] at w4
    rw [cdY_y k2] at w5
    refine ⟨fun i => ?_, fun l => ?_, ?_, fun c hc => ?_, fun j hj h21 => ?_, fun l hl => ?_⟩
    · rw [w7 0 (by omega) (by omega) (by omega) (by omega) (by omega), ofK_n (by omega)]
      exact b1 i
    · rw [w3, b_or, b_bit (by omega), Bool.or_eq_true, decide_eq_true_eq, b2 l, cNk_y c]
      omega
    · rw [w1.1 279 21 (by omega), show rtK (kdK B b) (iyT B b N) (k + 1) = rtK (kdK B b) (iyT B b N) k from if_neg (by omega)]
      exact b3
    · rw [w7 c (by omega) (by omega) (by omega) (by omega) (by omega)]
      exact b4 c hc
    · by_cases ej : j = k
      · subst ej
        exact ⟨w4, w5, w6⟩
      · have lt := cNk_lt (show j < k by omega) h21
        rw [w7 (8 + cNk (kdK B b) 21 j) (by omega) (by omega) (by omega) (by omega) (by omega), w7 (24 + cNk (kdK B b) 21 j) (by omega) (by omega) (by omega) (by omega) (by omega), w7 (40 + cNk (kdK B b) 21 j) (by omega) (by omega) (by omega) (by omega) (by omega)]
        exact b5 j (by omega) h21
    · rw [w7 (56 + l) (by omega) (by omega) (by omega) (by omega) (by omega)]
      exact b6 l hl
/-- down -/
theorem mnI_24 (hG : ymG B b N y0) (hI : mnI B b N y0 k y) (hk : k < N) (c : kdK B b k = 24) (F : mY → Option mY) : ∃ z1 z2, f_X11_known (nI (k + 1)) y = some (cdY B b N (k + 1), z1) ∧ f_X11_known (nI (k + 2)) z1 = some (cdY B b N (k + 2), z2) ∧ ∃ y1, mnI B b N y0 (k + 1) y1 ∧ (if cdY B b N (k + 1) < 0 then F z2 else (if cdY B b N (k + 2) < 0 then F z2 else (m_jn (fun _ => ((f_X11_wrong (5 : Int32) (nI (k + 2)) z2).bind fun q16 => F q16)) (fun j15 => if cdY B b N (k + 1) = cdY B b N (k + 2) then (j15 ()) else ((f_X11_isLinked (cdY B b N (k + 1)) (cdY B b N (k + 2)) (z2.1 279 10) z2).bind fun q17 => (if q17 = 0 then (j15 ()) else F z2)))))) = F y1 := by
  obtain ⟨a1, a2, a3, a4⟩ := id hI
  have hGy := ymG_F hG a1
  have g1 := hG.1
  have t1 := g1.2.2.2.1 k hk c
  have hR := ff_lt hG hk (show 20 ≤ kdK B b k by omega)
  obtain ⟨z1, z2, e1, e2, f2, hG2, S, s2, sb, sr, s0⟩ := known2_s hGy a2 t1.2.2 t1.1 t1.2.1 hR
  refine ⟨z1, z2, e1, e2, ?_⟩
  have lf := lnF_21 (N := N) (W := Wd B b) (V := Vd B b) (Or.inr c)
  have fin : ∀ z S', yF wrW y z → stW B b S' z → (¬ (ffF (lfT B b N) k).1 = 0 → S' = ffF (lfT B b N) k) → ((ffF (lfT B b N) k).1 = 0 → S' = lfT B b N k ∨ (S'.1 = 0 ∧ (lfT B b N k).1 = 0)) → mnI B b N y0 (k + 1) z := fun z S' fz sz r1 r0 => by
    refine mnI_w hI fz ?_ (by omega) (by omega) (by omega)
    rw [← nx_f]
    exact st_nx sz r0 r1
  by_cases k1 : fpT B b N (k + 1) < N
  · have k1' : fsT (kdK B b) (Wd B b) (Wd B b (k + 1)) N < N := k1
    rw [if_neg (fun z => absurd k1 ((cd_lt g1).mp z))]
    rw [if_pos k1'] at lf
    rw [if_pos k1] at s0
    by_cases k2 : fpT B b N (k + 2) < N
    · have k2' : fsT (kdK B b) (Wd B b) (Wd B b (k + 2)) N < N := k2
      rw [if_neg (fun z => absurd k2 ((cd_lt g1).mp z)), m_jn]
      dsimp only
      rw [if_pos k2', if_pos c] at lf
      rw [if_pos k2] at s0
      have sR0 : S = ffF (lfT B b N) k := by
        by_cases c0 : (ffF (lfT B b N) k).1 = 0
        · exact s0 c0
        · exact sr c0
      obtain ⟨z, w1, w2, w3⟩ := wrong_s (c := 5) hG2 s2 (show k + 2 < N by omega) (fun z => Or.inl (by rw [sR0] at z ⊢; have := hR z; omega)) (by decide) (by decide)
      have fin5 : (Wd B b (k + 1) = Wd B b (k + 2) ∨ lkB (kdK B b) (Wd B b) k N = false) → mnI B b N y0 (k + 1) z := fun d => by
        rw [if_pos d] at lf
        refine fin z _ (yF_tr f2 w2) w3 (fun c0 => by rw [sR0, rp_1 c0]) (fun c0 => Or.inl ?_)
        rw [sR0, rp_0 c0]
        exact lf.symm
      have e5 : f_X11_wrong (5 : Int32) (nI (k + 2)) z2 = some z := w1
      have lk1 : lkB (kdK B b) (Wd B b) k (N + 1) = lkB (kdK B b) (Wd B b) k N := by
        show (lkB (kdK B b) (Wd B b) k N || decide (kdK B b N = 21 ∧ prB (Wd B b) N k = true)) = _
        rw [decide_eq_false (fun z => by rw [g1.2.2.2.2.2.2] at z; cases z.1), Bool.or_false]
      by_cases e : Wd B b (k + 1) = Wd B b (k + 2)
      · rw [if_pos ((cd_ne g1 k1 k2).mpr e), e5, Option.bind_some]
        exact ⟨z, fin5 (Or.inl e), rfl⟩
      · rw [if_neg (fun z => e ((cd_ne g1 k1 k2).mp z)), cdY_y k1, cdY_y k2, hG2.2.2.2.2.1, linked_y hG2 (Nat.le_refl _) k1 k2, Option.bind_some, lk1]
        by_cases d : lkB (kdK B b) (Wd B b) k N = true
        · rw [if_pos d, if_neg (by decide)]
          refine ⟨z2, fin z2 S f2 s2 sr (fun c0 => Or.inr ⟨by rw [sR0]; exact c0, ?_⟩), rfl⟩
          rw [if_neg (fun z => z.elim e (fun u => by rw [d] at u; cases u))] at lf
          show (lnF (kdK B b) (Wd B b) (Vd B b) N k).1 = 0
          rw [lf]
        · rw [if_neg d, if_pos rfl, e5, Option.bind_some]
          exact ⟨z, fin5 (Or.inr (by simpa using d)), rfl⟩
    · have k2' : ¬ fsT (kdK B b) (Wd B b) (Wd B b (k + 2)) N < N := k2
      rw [if_pos ((cd_lt g1).mpr k2)]
      rw [if_neg k2'] at lf
      rw [if_neg k2] at s0
      exact ⟨z2, fin z2 S f2 s2 sr (fun c0 => Or.inl (by rw [s0 c0]; exact lf.symm)), rfl⟩
  · have k1' : ¬ fsT (kdK B b) (Wd B b) (Wd B b (k + 1)) N < N := k1
    rw [if_pos ((cd_lt g1).mpr k1)]
    rw [if_neg k1'] at lf
    rw [if_neg k1] at s0
    exact ⟨z2, fin z2 S f2 s2 sr (fun c0 => Or.inl (by rw [s0 c0]; exact lf.symm)), rfl⟩
/-- all lines -/
theorem means_L (hG : ymG B b N y0) : ∀ n k (y : mY), N + 1 - k < n → k ≤ N + 1 → mnI B b N y0 k y → ∃ y1, f_X11_means_L44 n (nI (iyY B b k)) (nI k) y = ((f_X11_meansDown y1).bind fun q5 => (some q5)) ∧ mnI B b N y0 (N + 1) y1
  | 0, _, _, h, _, _ => absurd h (Nat.not_lt_zero _)
  | n + 1, k, y, hn, hk, hI => by
    have g1 := hG.1
    have n4 := g1.1
    have hGy := ymG_F hG hI.1
    have kb := kdK_b (B := B) (b := b) k
    rw [f_X11_means_L44, hGy.2.2.2.2.1]
    by_cases e : k = N + 1
    · subst e
      rw [if_pos (nI_le (Nat.le_refl _) (by omega))]
      exact ⟨y, rfl, hI⟩
    · have h282 := (hGy.2.2.2.1 k (by omega)).1
      rw [if_neg (nI_ge (by omega) (by omega)), if_pos (in_ok (by omega) (by decide)), cl (by omega), h282, nI_1 k]
      have ne : ∀ q, q < 25 → ¬ kdK B b k = q → ¬ nI (kdK B b k) = nI q := fun q hq h z => h ((nI_eq (by omega) (by omega)).mp z)
      have same : ¬ kdK B b k = 20 → iyY B b (k + 1) = iyY B b k := fun h => cNk_n h
      have kN : 20 ≤ kdK B b k → k < N := fun h => Classical.byContradiction fun z => by
        rw [show k = N by omega, g1.2.2.2.2.2.2] at h
        omega
      by_cases c20 : kdK B b k = 20
      · have kn := kN (by omega)
        rw [if_pos (show nI (kdK B b k) = (20 : Int32) by rw [c20]; rfl)]
        obtain ⟨y1, e1, f1, s1⟩ := twice_y hGy hI.2.1 kn c20 (ff_lt hG kn (by omega)) (fun y7 => (f_X11_means_L44 n (nI (iyY B b k) + (1 : Int32)) (nI (k + 1)) y7))
        rw [e1, nI_1 (iyY B b k), show iyY B b k + 1 = iyY B b (k + 1) from (cNk_y c20).symm]
        refine means_L hG n (k + 1) y1 (by omega) (by omega) (mnI_w hI f1 ?_ (by omega) (by omega) (by omega))
        rw [← nx_f]
        have lf : lfT B b N k = if fsT (kdK B b) (Wd B b) (Wd B b (k + 1)) k < k then (3, k + 1) else (0, 0) := lnF_20 c20
        by_cases d : fsT (kdK B b) (Wd B b) (Wd B b (k + 1)) k < k
        · rw [if_pos d] at s1 lf
          exact st_nx s1 (fun c0 => Or.inl (by rw [rp_0 c0, lf])) (fun c0 => rp_1 c0)
        · rw [if_neg d] at s1 lf
          exact st_nx s1 (fun c0 => Or.inr ⟨c0, by rw [lf]⟩) (fun _ => rfl)
      rw [if_neg (show ¬ nI (kdK B b k) = (20 : Int32) from ne 20 (by decide) c20), ← same c20]
      by_cases c22 : kdK B b k = 22
      · have kn := kN (by omega)
        rw [if_pos (show nI (kdK B b k) = (22 : Int32) by rw [c22]; rfl)]
        obtain ⟨z, y2, e1, e2, i2⟩ := mnI_22 hG hI kn c22
        have t := means_L hG n (k + 1) y2 (by omega) (by omega) i2
        rw [e1, Option.bind_some]
        dsimp only
        by_cases d : cdY B b N (k + 1) < 0
        · rw [if_pos d] at e2
          rw [if_pos d, e2]
          exact t
        · rw [if_neg d] at e2
          rw [if_neg d, e2]
          exact t
      rw [if_neg (show ¬ nI (kdK B b k) = (22 : Int32) from ne 22 (by decide) c22)]
      by_cases c23 : kdK B b k = 23
      · have kn := kN (by omega)
        rw [if_pos (show nI (kdK B b k) = (23 : Int32) by rw [c23]; rfl)]
        obtain ⟨z, e1, i2⟩ := mnI_23 hG hI kn c23
        rw [e1, Option.bind_some]
        exact means_L hG n (k + 1) _ (by omega) (by omega) i2
      rw [if_neg (show ¬ nI (kdK B b k) = (23 : Int32) from ne 23 (by decide) c23)]
      by_cases c21 : kdK B b k = 21
      · have kn := kN (by omega)
        rw [if_pos (show nI (kdK B b k) = (21 : Int32) by rw [c21]; rfl)]
        obtain ⟨z, e1, i2⟩ := mnI_21 hG hI kn c21
        rw [e1, Option.bind_some]
        exact means_L hG n (k + 1) _ (by omega) (by omega) i2
      rw [if_neg (show ¬ nI (kdK B b k) = (21 : Int32) from ne 21 (by decide) c21)]
      by_cases c24 : kdK B b k = 24
      · have kn := kN (by omega)
        rw [if_pos (show nI (kdK B b k) = (24 : Int32) by rw [c24]; rfl)]
        obtain ⟨z1, z2, e1, e2, y1, i1, e3⟩ := mnI_24 hG hI kn c24 (fun q => f_X11_means_L44 n (nI (iyY B b (k + 1))) (nI (k + 1)) q)
        rw [e1, Option.bind_some]
        dsimp only
        rw [show nI k + (2 : Int32) = nI (k + 2) from nI_add k 2, e2, Option.bind_some]
        dsimp only
        obtain ⟨y3, u1, u2⟩ := means_L hG n (k + 1) y1 (by omega) (by omega) i1
        exact ⟨y3, e3.trans u1, u2⟩
      rw [if_neg (show ¬ nI (kdK B b k) = (24 : Int32) from ne 24 (by decide) c24)]
      have lt : kdK B b k < 20 := by omega
      exact means_L hG n (k + 1) y (by omega) (by omega) (mnI_n hI lt)
end TT
