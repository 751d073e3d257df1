/-! ===== the text: the class tells its lines ===== -/
section TO
variable {B : Nat → Nat} {b N k t t' : Nat} {x x' x0 s : mX}
theorem lnF_20 {K : Nat → Nat} {W : Nat → List Nat} {V : Nat → Nat} (c : K k = 20) : lnF K W V N k = if fsT K W (W (k + 1)) k < k then (3, k + 1) else (0, 0) := if_pos c
theorem lnF_22 {K : Nat → Nat} {W : Nat → List Nat} {V : Nat → Nat} (c : K k = 22 ∨ K k = 23) : lnF K W V N k = if fsT K W (W (k + 1)) N < N then (0, 0) else (4, k + 1) := by
  unfold lnF
  rw [if_neg (by omega), if_pos c]
theorem lnF_21 {K : Nat → Nat} {W : Nat → List Nat} {V : Nat → Nat} (c : K k = 21 ∨ K k = 24) : lnF K W V N k = (if fsT K W (W (k + 1)) N < N then
      (if fsT K W (W (k + 2)) N < N then
        (if K k = 24 then (if W (k + 1) = W (k + 2) ∨ lkB K W k N = false then (5, k + 2) else (0, 0))
         else (if W (k + 1) = W (k + 2) ∨ lkB K W k k = true then (3, k + 2) else if 1 ≤ V (k + 3) ∧ V (k + 3) ≤ 99 then (0, 0) else (5, k + 3)))
       else (4, k + 2))
     else (4, k + 1)) := by
  unfold lnF
  rw [if_neg (by omega), if_neg (by omega), if_pos c]
theorem lnF_0 {K : Nat → Nat} {W : Nat → List Nat} {V : Nat → Nat} (c : K k < 20) : lnF K W V N k = (0, 0) := by
  unfold lnF
  rw [if_neg (by omega), if_neg (by omega), if_neg (by omega)]
theorem one_eq (hT : xTk B b N x) (h : txK (kdK B b) N) (hn : xNm B b N x) (ht : t < N) (h1 : kdK B b t = 1) : f_X5_valueAt (nI t) x = some (lN (vlw B 32 (tkS B b t) (tkL B b t))) ∧ f_X5_find (lN (vlw B 32 (tkS B b t) (tkL B b t))) x = some (cdX B b N t) := ⟨value_1 hT h.1 ht h1, find_N h hn h1⟩
theorem post_x (hG : tlG B b N x0) (hI : tlI B b N x0 k s) (hk : k < N) (c : kdK B b k = 20) (hno : ∀ j, j < k → (lnF (kdK B b) (Wd B b) (Vd B b) N j).1 = 0) : tlO B b N x0 k s (f_X5_tellPost (nI (k + 1)) s) := by
  obtain ⟨h, hT, hn, hl⟩ := tlG_F hG hI.1
  have hN := h.1
  have t1 := h.2.1 k hk (Or.inl c)
  obtain ⟨v1, v2⟩ := one_eq hT h hn t1.2 t1.1
  have all : ∀ j, j < k → kdK B b j = 20 → Kfp (kdK B b) (Wd B b) j = 20 := fun j hj h20 => by
    have u := hno j hj
    rw [lnF_20 h20] at u
    have f1 := (fsT_ok (K := kdK B b) (W := Wd B b) (w := Wd B b (j + 1)) j).1
    by_cases d : fsT (kdK B b) (Wd B b) (Wd B b (j + 1)) j < j
    · rw [if_pos d] at u
      exact absurd u (show ¬ (3 = 0) by decide)
    · exact Kfp_20.mpr ⟨h20, by omega⟩
  have cnt := Kfp_all k all
  obtain ⟨d1, d2, d3, d4, d5, d6, d7, d8⟩ := hI.2
  have k8 := cNk_lt hk c
  have p8 := h.2.2.2.2.1
  unfold f_X5_tellPost
  rw [v1, Option.bind_some, v2, Option.bind_some, d1]
  have f1 := (fsT_ok (K := kdK B b) (W := Wd B b) (w := Wd B b (k + 1)) k)
  by_cases d : fsT (kdK B b) (Wd B b) (Wd B b (k + 1)) k < k
  · have yk := fsT_f d
    have e : fpT B b N (k + 1) = fsT (kdK B b) (Wd B b) (Wd B b (k + 1)) k := Kfp_fs (by omega) yk (f1.2.1 d).2
    have kn : fpT B b N (k + 1) < N := by omega
    have lt := cNk_lt d yk
    have ixe : ixT B b N (k + 1) = cNk (Kfp (kdK B b) (Wd B b)) 20 (fsT (kdK B b) (Wd B b) (Wd B b (k + 1)) k) := by
      unfold ixT ixX
      rw [e]
    rw [cdX_y kn, ixe, if_neg (fun z => by
      have z2 := (nI_eq (by omega) (by omega)).mp z
      omega)]
    exact tlO_f (c := 3) (by decide) (by rw [lnF_20 c, if_pos d]) (fl_x hT hN t1.2 3)
  · have yk : Kfp (kdK B b) (Wd B b) k = 20 := Kfp_20.mpr ⟨c, by omega⟩
    have e : fpT B b N (k + 1) = k := Kfp_fs hk yk rfl
    have kn : fpT B b N (k + 1) < N := by omega
    have ixe : ixT B b N (k + 1) = cNk (kdK B b) 20 k := by
      unfold ixT ixX
      rw [e, cnt]
    rw [cdX_y kn, ixe, if_pos rfl, m_let, nI_1]
    refine tlO_y (by rw [lnF_20 c, if_neg d]) rfl ⟨xF_set hI.1 (Or.inr (Or.inl ⟨by omega, by omega⟩)), ?_, ?_, ?_, ?_, ?_, ?_, ?_, ?_⟩
    · rw [xs_eq, cNk_y c]
    · rw [xs_ec (by decide), cNk_n (by omega)]; exact d2
    · rw [xs_ec (by decide), cNk_n (by omega)]; exact d3
    · rw [xs_ec (by decide), show rtK (kdK B b) (ixT B b N) (k + 1) = rtK (kdK B b) (ixT B b N) k from if_neg (by omega)]; exact d4
    · intro i i1 i2
      rw [xs_ec (by omega)]; exact d5 i i1 i2
    · exact lkX_n (lkX_c d6 (xs_ne (by decide)) (xs_ne (by decide)) (xs_ne (by decide)) (xs_ne (by decide))) (by omega)
    · intro i
      rw [xs_ne (by decide), ofK_n (by omega)]; exact d7 i
    · exact rwX_n (rwX_c d8 (xs_ne (by decide))) (fun z => by omega)
theorem offs_x (hG : tlG B b N x0) (hI : tlI B b N x0 k s) (hk : k < N) (c : kdK B b k = 22) : tlO B b N x0 k s (f_X5_tellOne (nI (k + 1)) 0 s) := by
  obtain ⟨h, hT, hn, hl⟩ := tlG_F hG hI.1
  have hN := h.1
  have t1 := h.2.1 k hk (Or.inr (Or.inl c))
  obtain ⟨v1, v2⟩ := one_eq hT h hn t1.2 t1.1
  obtain ⟨d1, d2, d3, d4, d5, d6, d7, d8⟩ := hI.2
  unfold f_X5_tellOne
  rw [v1, Option.bind_some, v2, Option.bind_some]
  by_cases kn : fpT B b N (k + 1) < N
  · have i8 := ix_8 h kn
    rw [cdX_y kn, if_neg (nI_m1 (by omega)), if_pos rfl, m_let]
    refine tlO_y (by rw [lnF_22 (Or.inl c)]; exact if_pos kn) rfl ⟨xF_set hI.1 (Or.inl ⟨rfl, rfl⟩), ?_, ?_, ?_, ?_, ?_, ?_, ?_, ?_⟩
    · rw [xs_ne (by decide), cNk_n (by omega)]; exact d1
    · rw [xs_ne (by decide), cNk_n (by omega)]; exact d2
    · rw [xs_ne (by decide), cNk_n (by omega)]; exact d3
    · rw [xs_ne (by decide), show rtK (kdK B b) (ixT B b N) (k + 1) = rtK (kdK B b) (ixT B b N) k from if_neg (by omega)]; exact d4
    · intro i i1 i2
      rw [xs_ne (by decide)]; exact d5 i i1 i2
    · exact lkX_n (lkX_c d6 (xs_ne (by decide)) (xs_ne (by decide)) (xs_ne (by decide)) (xs_ne (by decide))) (by omega)
    · intro i
      rw [xs_eq, b_or, b_bit (by omega), Bool.or_eq_true, decide_eq_true_eq, d7 i, ofK_y c]
    · exact rwX_n (rwX_c d8 (xs_ne (by decide))) (fun z => by omega)
  · rw [cdX_n kn, if_pos rfl]
    exact tlO_f (c := 4) (by decide) (by rw [lnF_22 (Or.inl c)]; exact if_neg kn) (fl_x hT hN t1.2 4)
theorem root_x (hG : tlG B b N x0) (hI : tlI B b N x0 k s) (hk : k < N) (c : kdK B b k = 23) : tlO B b N x0 k s (f_X5_tellOne (nI (k + 1)) 1 s) := by
  obtain ⟨h, hT, hn, hl⟩ := tlG_F hG hI.1
  have hN := h.1
  have t1 := h.2.1 k hk (Or.inr (Or.inr c))
  obtain ⟨v1, v2⟩ := one_eq hT h hn t1.2 t1.1
  obtain ⟨d1, d2, d3, d4, d5, d6, d7, d8⟩ := hI.2
  unfold f_X5_tellOne
  rw [v1, Option.bind_some, v2, Option.bind_some]
  by_cases kn : fpT B b N (k + 1) < N
  · have i8 := ix_8 h kn
    rw [cdX_y kn, if_neg (nI_m1 (by omega)), if_neg (by decide), m_let]
    refine tlO_y (by rw [lnF_22 (Or.inr c)]; exact if_pos kn) rfl ⟨xF_set hI.1 (Or.inr (Or.inl ⟨by omega, by omega⟩)), ?_, ?_, ?_, ?_, ?_, ?_, ?_, ?_⟩
    · rw [xs_ec (by decide), cNk_n (by omega)]; exact d1
    · rw [xs_ec (by decide), cNk_n (by omega)]; exact d2
    · rw [xs_ec (by decide), cNk_n (by omega)]; exact d3
    · rw [xs_eq, show rtK (kdK B b) (ixT B b N) (k + 1) = ixT B b N (k + 1) from if_pos c]
    · intro i i1 i2
      rw [xs_ec (by omega)]; exact d5 i i1 i2
    · exact lkX_n (lkX_c d6 (xs_ne (by decide)) (xs_ne (by decide)) (xs_ne (by decide)) (xs_ne (by decide))) (by omega)
    · intro i
      rw [xs_ne (by decide), ofK_n (by omega)]; exact d7 i
    · exact rwX_n (rwX_c d8 (xs_ne (by decide))) (fun z => by omega)
  · rw [cdX_n kn, if_pos rfl]
    exact tlO_f (c := 4) (by decide) (by rw [lnF_22 (Or.inr c)]; exact if_neg kn) (fl_x hT hN t1.2 4)
/-- two lines of the same two, by numbers -/
theorem tw_iff {j k : Nat} (j1 : fpT B b N (j + 1) < N) (j2 : fpT B b N (j + 2) < N) (k1 : fpT B b N (k + 1) < N) (k2 : fpT B b N (k + 2) < N) : twX B b N j (ixT B b N (k + 1)) (ixT B b N (k + 2)) ↔ prB (Wd B b) j k = true := by
  unfold twX prB
  rw [decide_eq_true_eq, ix_inj k1 j1, ix_inj k2 j2, ix_inj k1 j2, ix_inj k2 j1]
  constructor
  · rintro (⟨a, c⟩ | ⟨a, c⟩)
    · exact Or.inl ⟨a.symm, c.symm⟩
    · exact Or.inr ⟨c.symm, a.symm⟩
  · rintro (⟨a, c⟩ | ⟨a, c⟩)
    · exact Or.inl ⟨a.symm, c.symm⟩
    · exact Or.inr ⟨c.symm, a.symm⟩
theorem pr_kn {j k : Nat} (k1 : fpT B b N (k + 1) < N) (k2 : fpT B b N (k + 2) < N) (h : prB (Wd B b) j k = true) : fpT B b N (j + 1) < N ∧ fpT B b N (j + 2) < N := by
  rcases of_decide_eq_true h with ⟨a, c⟩ | ⟨a, c⟩
  · rw [fp_W a, fp_W c]
    exact ⟨k1, k2⟩
  · rw [fp_W a, fp_W c]
    exact ⟨k2, k1⟩
theorem pr_ne {j k : Nat} (h : prB (Wd B b) j k = true) (hk : Wd B b (k + 1) ≠ Wd B b (k + 2)) : Wd B b (j + 1) ≠ Wd B b (j + 2) := by
  rcases of_decide_eq_true h with ⟨a, c⟩ | ⟨a, c⟩
  · rw [a, c]; exact hk
  · rw [a, c]; exact fun z => hk z.symm
theorem down_x (hG : tlG B b N x0) (hI : tlI B b N x0 k s) (hk : k < N) (c : kdK B b k = 24) : tlO B b N x0 k s (f_X5_tellDown (nI (k + 1)) s) := by
  obtain ⟨h, hT, hn, hl⟩ := tlG_F hG hI.1
  have hN := h.1
  have t1 := h.2.2.2.1 k hk c
  obtain ⟨v1, v2⟩ := one_eq hT h hn (show k + 1 < N by omega) t1.1
  obtain ⟨u1, u2⟩ := one_eq hT h hn t1.2.2 t1.2.1
  obtain ⟨d1, d2, d3, d4, d5, d6, d7, d8⟩ := hI.2
  have lf := lnF_21 (N := N) (W := Wd B b) (V := Vd B b) (Or.inr c)
  unfold f_X5_tellDown
  rw [v1, Option.bind_some, v2, Option.bind_some, nI_1, u1, Option.bind_some, u2, Option.bind_some]
  by_cases k1 : fpT B b N (k + 1) < N
  · have i8 := ix_8 h k1
    have k1' : fsT (kdK B b) (Wd B b) (Wd B b (k + 1)) N < N := k1
    rw [if_pos k1'] at lf
    rw [cdX_y k1, if_neg (nI_pos (by omega)), if_pos (show nI (ixT B b N (k + 1)) < (8 : Int32) from nI_lt (b := 8) i8 (by decide)), m_jn]
    dsimp only
    by_cases k2 : fpT B b N (k + 2) < N
    · have j8 := ix_8 h k2
      have k2' : fsT (kdK B b) (Wd B b) (Wd B b (k + 2)) N < N := k2
      rw [if_pos k2', if_pos c] at lf
      rw [cdX_y k2, if_neg (nI_pos (by omega)), if_pos (show nI (ixT B b N (k + 2)) < (8 : Int32) from nI_lt (b := 8) j8 (by decide)), if_pos (in_ok i8 (by decide)), cl (by omega)]
      have key : bt (s.1 12 (ixT B b N (k + 1))) (ixT B b N (k + 2)) = true ↔ ¬ (Wd B b (k + 1) = Wd B b (k + 2) ∨ lkB (kdK B b) (Wd B b) k N = false) := by
        rw [hl _ i8]
        constructor
        · rintro ⟨j, j1, j2, j3, j4, j5, j6⟩
          have pr := (tw_iff j3 j4 k1 k2).mp j6
          have l1 := (lkB_iff N).mpr ⟨j, j1, j2, pr⟩
          rintro (z | z)
          · rcases of_decide_eq_true pr with ⟨a, e⟩ | ⟨a, e⟩
            · exact j5 (by rw [a, e]; exact z)
            · exact j5 (by rw [a, e]; exact z.symm)
          · rw [l1] at z
            cases z
        · intro z
          have z1 : Wd B b (k + 1) ≠ Wd B b (k + 2) := fun e => z (Or.inl e)
          have z2 : lkB (kdK B b) (Wd B b) k N = true := by
            cases hb : lkB (kdK B b) (Wd B b) k N with
            | true => rfl
            | false => exact absurd (Or.inr hb) z
          obtain ⟨j, j1, j2, j3⟩ := (lkB_iff N).mp z2
          obtain ⟨q1, q2⟩ := pr_kn k1 k2 j3
          exact ⟨j, j1, j2, q1, q2, pr_ne j3 z1, (tw_iff q1 q2 k1 k2).mpr j3⟩
      by_cases kb : bt (s.1 12 (ixT B b N (k + 1))) (ixT B b N (k + 2)) = true
      · have z := key.mp kb
        have z1 : Wd B b (k + 1) ≠ Wd B b (k + 2) := fun e => z (Or.inl e)
        obtain ⟨s1, e1, w1, b1⟩ := mark_y (r := 13) i8 j8 (fun z => z1 ((ix_inj k1 k2).mp z)) s
        rw [if_neg (h10t (by omega) kb), e1, Option.bind_some]
        rw [if_neg z] at lf
        have r : ∀ q, q ≠ 13 → s1.1 q = s.1 q := fun q hq => xF_row w1 (fun c => by omega)
        refine tlO_y lf rfl ⟨xF_tr hI.1 (xF_mo w1 (fun q c hq => Or.inr (Or.inr hq.1))), ?_, ?_, ?_, ?_, ?_, ?_, ?_, ?_⟩
        · rw [r 2 (by decide), cNk_n (by omega)]; exact d1
        · rw [r 2 (by decide), cNk_n (by omega)]; exact d2
        · rw [r 2 (by decide), cNk_n (by omega)]; exact d3
        · rw [r 2 (by decide), show rtK (kdK B b) (ixT B b N) (k + 1) = rtK (kdK B b) (ixT B b N) k from if_neg (by omega)]; exact d4
        · intro i i1 i2
          rw [r 2 (by decide)]; exact d5 i i1 i2
        · exact lkX_n (lkX_c d6 (r 3 (by decide)) (r 4 (by decide)) (r 5 (by decide)) (r 6 (by decide))) (by omega)
        · intro i
          rw [r 1 (by decide), ofK_n (by omega)]; exact d7 i
        · exact rwX_y d8 c k1 k2 z1 b1
      · have z : Wd B b (k + 1) = Wd B b (k + 2) ∨ lkB (kdK B b) (Wd B b) k N = false := Classical.byContradiction fun z => kb (key.mpr z)
        rw [if_pos (h10f (by omega) kb)]
        rw [if_pos z] at lf
        exact tlO_f (c := 5) (by decide) lf (fl_x hT hN t1.2.2 5)
    · have k2' : ¬ fsT (kdK B b) (Wd B b) (Wd B b (k + 2)) N < N := k2
      rw [if_neg k2'] at lf
      rw [cdX_n k2, if_pos (by decide)]
      exact tlO_f (c := 4) (by decide) lf (fl_x hT hN t1.2.2 4)
  · have k1' : ¬ fsT (kdK B b) (Wd B b) (Wd B b (k + 1)) N < N := k1
    rw [if_neg k1'] at lf
    rw [cdX_n k1, if_pos (by decide)]
    exact tlO_f (c := 4) (by decide) lf (fl_x hT hN (by omega) 4)
end TO
