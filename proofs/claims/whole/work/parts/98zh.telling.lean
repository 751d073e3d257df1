/-! ===== the text: the class tells its links; all lines ===== -/
section TP
variable {B : Nat → Nat} {b N k t t' : Nat} {x x' x0 s : mX}
theorem add_2 (x : mX) {m : Nat} (hm : m < 16) (h1 : x.1 2 1 = nI m) (a b c : Int32) : ∃ x1, f_X6_add 2 a b c x = some x1 ∧ xF (fun q _ => 2 ≤ q ∧ q ≤ 6) x x1 ∧ x1.1 2 1 = nI (m + 1) ∧ x1.1 2 3 = x.1 2 3 ||| ((1 : Int32) <<< (nI m &&& 31)) ∧ (∀ k, k ≠ 1 → k ≠ 3 → x1.1 2 k = x.1 2 k) ∧ (x1.1 3 m = a ∧ x1.1 4 m = b ∧ x1.1 5 m = c ∧ x1.1 6 m = 0) ∧ ∀ i, i ≠ m → x1.1 3 i = x.1 3 i ∧ x1.1 4 i = x.1 4 i ∧ x1.1 5 i = x.1 5 i ∧ x1.1 6 i = x.1 6 i := by
  unfold f_X6_add
  have i16 : m_in (nI m) 16 = true := in_ok hm (by decide)
  rw [h1, if_pos (show nI m < (16 : Int32) from nI_lt (b := 16) hm (by decide)), if_pos i16, m_let, cl (by omega), xs_ne (show 2 ≠ 2 + 1 by decide), h1, if_pos i16, m_let, cl (by omega), xs_ne (show 2 ≠ 2 + 2 by decide), xs_ne (show 2 ≠ 2 + 1 by decide), h1, if_pos i16, m_let, cl (by omega), xs_ne (show 2 ≠ 2 + 3 by decide), xs_ne (show 2 ≠ 2 + 2 by decide), xs_ne (show 2 ≠ 2 + 1 by decide), h1, if_pos i16, m_let, cl (by omega), m_let, m_let]
  refine ⟨_, rfl, xF_set (xF_set (xF_set (xF_set (xF_set (xF_set (xF_rf _ _) (by omega)) (by omega)) (by omega)) (by omega)) (by omega)) (by omega), ?_, ?_, fun k k1 k3 => ?_, ⟨?_, ?_, ?_, ?_⟩, fun i hi => ⟨?_, ?_, ?_, ?_⟩⟩
  · rw [xs_eq, xs_ec (by decide), xs_ne (by decide), xs_ne (by decide), xs_ne (by decide), xs_ne (by decide), h1, nI_1]
  · rw [xs_ec (by decide), xs_eq, xs_ne (by decide), xs_ne (by decide), xs_ne (by decide), xs_ne (by decide), h1]
  · rw [xs_ec k1, xs_ec k3, xs_ne (by decide), xs_ne (by decide), xs_ne (by decide), xs_ne (by decide)]
  · rw [xs_ne (by decide), xs_ne (by decide), xs_ne (by decide), xs_ne (by decide), xs_ne (by decide), show 2 + 1 = 3 from rfl, xs_eq]
  · rw [xs_ne (by decide), xs_ne (by decide), xs_ne (by decide), xs_ne (by decide), show 2 + 2 = 4 from rfl, xs_eq]
  · rw [xs_ne (by decide), xs_ne (by decide), xs_ne (by decide), show 2 + 3 = 5 from rfl, xs_eq]
  · rw [xs_ne (by decide), xs_ne (by decide), show 2 + 4 = 6 from rfl, xs_eq]
  · rw [xs_ne (by decide), xs_ne (by decide), xs_ne (by decide), xs_ne (by decide), xs_ne (by decide), show 2 + 1 = 3 from rfl, xs_ec hi]
  · rw [xs_ne (by decide), xs_ne (by decide), xs_ne (by decide), xs_ne (by decide), show 2 + 2 = 4 from rfl, xs_ec hi, xs_ne (by decide)]
  · rw [xs_ne (by decide), xs_ne (by decide), xs_ne (by decide), show 2 + 3 = 5 from rfl, xs_ec hi, xs_ne (by decide), xs_ne (by decide)]
  · rw [xs_ne (by decide), xs_ne (by decide), show 2 + 4 = 6 from rfl, xs_ec hi, xs_ne (by decide), xs_ne (by decide), xs_ne (by decide)]
theorem kn_no (c : kdK B b k = 21 ∨ kdK B b k = 24) (h : (lnF (kdK B b) (Wd B b) (Vd B b) N k).1 = 0) : fpT B b N (k + 1) < N ∧ fpT B b N (k + 2) < N ∧ Wd B b (k + 1) ≠ Wd B b (k + 2) := by
  rw [lnF_21 c] at h
  by_cases k1 : fsT (kdK B b) (Wd B b) (Wd B b (k + 1)) N < N
  · rw [if_pos k1] at h
    by_cases k2 : fsT (kdK B b) (Wd B b) (Wd B b (k + 2)) N < N
    · rw [if_pos k2] at h
      refine ⟨k1, k2, fun e => ?_⟩
      by_cases c24 : kdK B b k = 24
      · rw [if_pos c24, if_pos (Or.inl e)] at h
        exact absurd h (show ¬ (5 = 0) by decide)
      · rw [if_neg c24, if_pos (Or.inl e)] at h
        exact absurd h (show ¬ (3 = 0) by decide)
    · rw [if_neg k2] at h
      exact absurd h (show ¬ (4 = 0) by decide)
  · rw [if_neg k1] at h
    exact absurd h (show ¬ (4 = 0) by decide)
theorem cost_v {v : Nat} (hv : v < 10000) : f_X10_isCost (nI v) = (if 1 ≤ v ∧ v ≤ 99 then 1 else 0) ∧ f_X11_in (nI v) 1 99 = (if 1 ≤ v ∧ v ≤ 99 then 1 else 0) := by
  unfold f_X10_isCost f_X11_in
  by_cases c1 : 1 ≤ v
  · rw [if_neg (show ¬ nI v < (1 : Int32) from nI_nlt (b := 1) c1 (by omega))]
    by_cases c2 : v ≤ 99
    · rw [if_neg (show ¬ (99 : Int32) < nI v from nI_nlt (a := 99) c2 (by decide)), if_pos ⟨c1, c2⟩]
      exact ⟨rfl, rfl⟩
    · rw [if_pos (show (99 : Int32) < nI v from nI_lt (a := 99) (by omega) (by omega)), if_neg (by omega)]
      exact ⟨rfl, rfl⟩
  · rw [if_pos (show nI v < (1 : Int32) from nI_lt (b := 1) (by omega) (by decide)), if_neg (by omega)]
    exact ⟨rfl, rfl⟩
theorem link_x (hG : tlG B b N x0) (hI : tlI B b N x0 k s) (hk : k < N) (c : kdK B b k = 21) (hno : ∀ j, j < k → (lnF (kdK B b) (Wd B b) (Vd B b) N j).1 = 0) : tlO B b N x0 k s (f_X5_tellLink (nI (k + 1)) s) := by
  obtain ⟨h, hT, hn, hl⟩ := tlG_F hG hI.1
  have hN := h.1
  have t1 := h.2.2.1 k hk c
  obtain ⟨v1, v2⟩ := one_eq hT h hn (show k + 1 < N by omega) t1.1
  obtain ⟨u1, u2⟩ := one_eq hT h hn (show k + 2 < N by omega) t1.2.1
  obtain ⟨d1, d2, d3, d4, d5, d6, d7, d8⟩ := hI.2
  have m16 := h.2.2.2.2.2.1
  have mlt := cNk_lt hk c
  have lf := lnF_21 (N := N) (W := Wd B b) (V := Vd B b) (Or.inl c)
  unfold f_X5_tellLink
  rw [v1, Option.bind_some, v2, Option.bind_some, nI_1, u1, Option.bind_some, u2, Option.bind_some]
  by_cases k1 : fpT B b N (k + 1) < N
  · have i8 := ix_8 h k1
    have k1' : fsT (kdK B b) (Wd B b) (Wd B b (k + 1)) N < N := k1
    rw [if_pos k1'] at lf
    rw [cdX_y k1, if_neg (nI_m1 (by omega))]
    by_cases k2 : fpT B b N (k + 2) < N
    · have j8 := ix_8 h k2
      have k2' : fsT (kdK B b) (Wd B b) (Wd B b (k + 2)) N < N := k2
      rw [if_pos k2', if_neg (by omega)] at lf
      rw [cdX_y k2, if_neg (nI_m1 (by omega)), m_jn]
      dsimp only
      by_cases e : Wd B b (k + 1) = Wd B b (k + 2)
      · rw [if_pos (by rw [(ix_inj k1 k2).mpr e])]
        rw [if_pos (Or.inl e)] at lf
        exact tlO_f (c := 3) (by decide) lf (fl_x hT hN (by omega) 3)
      · rw [if_neg (fun z => e ((ix_inj k1 k2).mp ((nI_eq (by omega) (by omega)).mp z)))]
        have key : lkB (kdK B b) (Wd B b) k k = true ↔ ∃ l, l < cNk (kdK B b) 21 k ∧ bE s 2 l (nI (ixT B b N (k + 1))) (nI (ixT B b N (k + 2))) := by
          rw [lkB_iff]
          constructor
          · rintro ⟨j, j1, j2, j3⟩
            obtain ⟨q1, q2⟩ := pr_kn k1 k2 j3
            obtain ⟨r1, r2, _⟩ := d6 j j1 j2
            refine ⟨cNk (kdK B b) 21 j, cNk_lt j1 j2, ?_⟩
            rcases (tw_iff q1 q2 k1 k2).mpr j3 with ⟨a1, a2⟩ | ⟨a1, a2⟩
            · exact Or.inl ⟨by rw [a1]; exact r1, by rw [a2]; exact r2⟩
            · exact Or.inr ⟨by rw [a2]; exact r1, by rw [a1]; exact r2⟩
          · rintro ⟨l, l1, l2⟩
            obtain ⟨q1, q2, q3⟩ := nTk_ok (K := kdK B b) (q := 21) k l l1
            obtain ⟨r1, r2, _⟩ := d6 _ q1 q2
            rw [q3] at r1 r2
            obtain ⟨n1, n2, n3⟩ := kn_no (Or.inl q2) (hno _ q1)
            have a8 := ix_8 h n1
            have b8' := ix_8 h n2
            refine ⟨_, q1, q2, (tw_iff n1 n2 k1 k2).mp ?_⟩
            rcases l2 with ⟨a1, a2⟩ | ⟨a1, a2⟩
            · have a1 : s.1 3 l = _ := a1
              have a2 : s.1 4 l = _ := a2
              rw [r1] at a1
              rw [r2] at a2
              exact Or.inl ⟨((nI_eq (by omega) (by omega)).mp a1).symm, ((nI_eq (by omega) (by omega)).mp a2).symm⟩
            · have a1 : s.1 3 l = _ := a1
              have a2 : s.1 4 l = _ := a2
              rw [r1] at a1
              rw [r2] at a2
              exact Or.inr ⟨((nI_eq (by omega) (by omega)).mp a2).symm, ((nI_eq (by omega) (by omega)).mp a1).symm⟩
        rcases between_g s 2 (nI (ixT B b N (k + 1))) (nI (ixT B b N (k + 2))) d2 (by omega) with ⟨l, l1, l2, l3⟩ | ⟨l1, l3⟩
        · rw [l3, Option.bind_some, if_neg (nI_m1 (by omega))]
          rw [if_pos (Or.inr (key.mpr ⟨l, l1, l2⟩))] at lf
          exact tlO_f (c := 3) (by decide) lf (fl_x hT hN (by omega) 3)
        · have nk : ¬ (Wd B b (k + 1) = Wd B b (k + 2) ∨ lkB (kdK B b) (Wd B b) k k = true) := by
            rintro (z | z)
            · exact e z
            · obtain ⟨l, q1, q2⟩ := key.mp z
              exact l1 l q1 q2
          rw [if_neg nk] at lf
          have vb := kd2 t1.2.2.1
          have vv : s.2.1 10 (k + 3) = lN (Vd B b (k + 3)) := (hT.2 (k + 3) (by omega)).2.2.2.2 t1.2.2.1
          rw [l3, Option.bind_some, if_pos rfl, show nI (k + 1) + (2 : Int32) = nI (k + 3) from nI_add (k + 1) 2, valueAt_x hT hN (by omega), Option.bind_some, vv, lN_i, (cost_v vb).1]
          by_cases cv : 1 ≤ Vd B b (k + 3) ∧ Vd B b (k + 3) ≤ 99
          · rw [if_pos cv] at lf
            obtain ⟨s1, e1, w1, a1, a2, a3, a4, a5⟩ := add_2 s (m := cNk (kdK B b) 21 k) (by omega) d2 (nI (ixT B b N (k + 1))) (nI (ixT B b N (k + 2))) (nI (Vd B b (k + 3)))
            rw [if_pos cv, if_neg (by decide), e1, Option.bind_some]
            refine tlO_y lf rfl ⟨xF_tr hI.1 (xF_mo w1 (fun q c hq => Or.inr (Or.inl hq))), ?_, ?_, ?_, ?_, ?_, ?_, ?_, ?_⟩
            · rw [a3 0 (by decide) (by decide), cNk_n (by omega)]; exact d1
            · rw [a1, cNk_y c]
            · intro i
              rw [a2, b_or, b_bit (by omega), Bool.or_eq_true, decide_eq_true_eq, d3 i, cNk_y c]
              omega
            · rw [a3 4 (by decide) (by decide), show rtK (kdK B b) (ixT B b N) (k + 1) = rtK (kdK B b) (ixT B b N) k from if_neg (by omega)]; exact d4
            · intro i i1 i2
              rw [a3 i (by omega) (by omega)]; exact d5 i i1 i2
            · intro j hj h21
              by_cases ej : j = k
              · subst ej
                exact a4
              · have lt := cNk_lt (show j < k by omega) h21
                obtain ⟨g1, g2, g3, g4⟩ := a5 (cNk (kdK B b) 21 j) (by omega)
                rw [g1, g2, g3, g4]
                exact d6 j (by omega) h21
            · intro i
              rw [w1.1 1 16 (by omega), ofK_n (by omega)]; exact d7 i
            · exact rwX_n (rwX_c d8 (xF_row w1 (fun c => by omega))) (fun z => by omega)
          · rw [if_neg cv] at lf
            rw [if_neg cv, if_pos rfl]
            exact tlO_f (c := 5) (by decide) lf (fl_x hT hN t1.2.2.2 5)
    · have k2' : ¬ fsT (kdK B b) (Wd B b) (Wd B b (k + 2)) N < N := k2
      rw [if_neg k2'] at lf
      rw [cdX_n k2, if_pos rfl]
      exact tlO_f (c := 4) (by decide) lf (fl_x hT hN (by omega) 4)
  · have k1' : ¬ fsT (kdK B b) (Wd B b) (Wd B b (k + 1)) N < N := k1
    rw [if_neg k1'] at lf
    rw [cdX_n k1, if_pos rfl]
    exact tlO_f (c := 4) (by decide) lf (fl_x hT hN (by omega) 4)
theorem bind_et (o : Option (Int32 × mX)) : (o.bind fun q => some (q.1, q.2)) = o := by
  cases o <;> rfl
theorem srt_d : ∀ k, k < 25 → isKd k → (nI (srt k) = 100 ↔ k = 24) ∧ (nI (srt k) = 108 ↔ k = 21) ∧ (nI (srt k) = 111 ↔ k = 22) ∧ (nI (srt k) = 112 ↔ k = 20) ∧ (nI (srt k) = 114 ↔ k = 23) := by unfold isKd; decide +kernel
theorem line_x (hG : tlG B b N x0) (hI : tlI B b N x0 k s) (hk : k < N) (hno : ∀ j, j < k → (lnF (kdK B b) (Wd B b) (Vd B b) N j).1 = 0) : tlO B b N x0 k s (f_X5_tellLine (nI k) s) := by
  obtain ⟨h, hT, hn, hl⟩ := tlG_F hG hI.1
  have hN := h.1
  have hkd := isKd_t hT hk
  obtain ⟨e24, e21, e22, e20, e23⟩ := srt_d _ (kdK_b k) hkd
  have ka := kindAt_x hT hN hk
  unfold f_X5_tellLine
  rw [ka, Option.bind_some, Option.bind_some, nI_1, bind_et, bind_et, bind_et, bind_et, bind_et]
  by_cases c24 : kdK B b k = 24
  · rw [if_pos (e24.mpr c24)]
    exact down_x hG hI hk c24
  rw [if_neg (fun z => c24 (e24.mp z))]
  by_cases c21 : kdK B b k = 21
  · rw [if_pos (e21.mpr c21)]
    exact link_x hG hI hk c21 hno
  rw [if_neg (fun z => c21 (e21.mp z))]
  by_cases c22 : kdK B b k = 22
  · rw [if_pos (e22.mpr c22), if_neg (fun z => absurd (e23.mp z) (by omega))]
    exact offs_x hG hI hk c22
  rw [if_neg (fun z => c22 (e22.mp z))]
  by_cases c20 : kdK B b k = 20
  · rw [if_pos (e20.mpr c20)]
    exact post_x hG hI hk c20 hno
  rw [if_neg (fun z => c20 (e20.mp z))]
  by_cases c23 : kdK B b k = 23
  · rw [if_pos (e23.mpr c23), if_pos (e23.mpr c23)]
    exact root_x hG hI hk c23
  rw [if_neg (fun z => c23 (e23.mp z))]
  have lt : kdK B b k < 20 := by
    unfold isKd at hkd
    omega
  exact tlO_y (lnF_0 lt) rfl ⟨hI.1, drX_n hI.2 lt⟩
/-- cells emptied one by one -/
def clI (x : mX) (j : Nat) (z : mX) : Prop := xF (fun q _ => q = 2) x z ∧ ∀ c, c < j → z.1 2 c = 0
theorem clI_s {j : Nat} {z : mX} (h : clI x j z) : clI x (j + 1) (m_xs z 2 j 0) := ⟨xF_set h.1 rfl, fun c hc => by
  by_cases e : c = j
  · subst e
    rw [xs_eq]
  · rw [xs_ec e]
    exact h.2 c (by omega)⟩
theorem clr_x (x : mX) : clI x 10 (f_X6_clear x) := clI_s (clI_s (clI_s (clI_s (clI_s (clI_s (clI_s (clI_s (clI_s (clI_s ⟨xF_rf _ _, fun c hc => absurd hc (Nat.not_lt_zero _)⟩)))))))))
/-- the telling -/
theorem tell_x (hG : tlG B b N x) (h16 : x.1 1 16 = 0) (h13 : ∀ a, a < 8 → x.1 13 a = 0) : ((ffF (lnF (kdK B b) (Wd B b) (Vd B b) N) N).1 = 0 ∧ ∃ s', f_X5_tell x = some (0, s') ∧ tlI B b N x N s') ∨ (¬ (ffF (lnF (kdK B b) (Wd B b) (Vd B b) N) N).1 = 0 ∧ ∃ s', f_X5_tell x = some (nI (ffF (lnF (kdK B b) (Wd B b) (Vd B b) N) N).1, s') ∧ xF (fun q c => tlW q c ∨ (q = 1 ∧ c = 1)) x s' ∧ s'.1 1 1 = nI (tkS B b (ffF (lnF (kdK B b) (Wd B b) (Vd B b) N) N).2)) := by
  have hN := hG.1.1
  unfold f_X5_tell
  rw [m_let]
  have c0 := clr_x x
  generalize f_X6_clear x = x1 at c0
  have hI0 : tlI B b N x 0 x1 := by
    refine ⟨xF_mo c0.1 (fun q c hq => Or.inr (Or.inl ⟨by omega, by omega⟩)), c0.2 0 (by decide), c0.2 1 (by decide), fun i => ?_, c0.2 4 (by decide), fun c h1 h2 => c0.2 c h2, fun j hj => absurd hj (Nat.not_lt_zero _), fun i => ?_, fun i hi c => ?_⟩
    · rw [c0.2 3 (by decide), b_0]
      exact ⟨fun z => (by cases z), fun z => absurd z (Nat.not_lt_zero _)⟩
    · rw [c0.1.1 1 16 (by omega), h16, b_0]
      exact ⟨fun z => (by cases z), fun ⟨j, j1, _⟩ => absurd j1 (Nat.not_lt_zero _)⟩
    · rw [c0.1.1 13 i (by omega), h13 i hi, b_0]
      exact ⟨fun z => (by cases z), fun ⟨j, j1, _⟩ => absurd j1 (Nat.not_lt_zero _)⟩
  refine lp_up N (fun n a (s : mX) => f_X5_tell_L9 n a s) (fun j s => tlI B b N x j s ∧ (ffF (lnF (kdK B b) (Wd B b) (Vd B b) N) j).1 = 0) (fun o => ((ffF (lnF (kdK B b) (Wd B b) (Vd B b) N) N).1 = 0 ∧ ∃ s', o = some (0, s') ∧ tlI B b N x N s') ∨ (¬ (ffF (lnF (kdK B b) (Wd B b) (Vd B b) N) N).1 = 0 ∧ ∃ s', o = some (nI (ffF (lnF (kdK B b) (Wd B b) (Vd B b) N) N).1, s') ∧ xF (fun q c => tlW q c ∨ (q = 1 ∧ c = 1)) x s' ∧ s'.1 1 1 = nI (tkS B b (ffF (lnF (kdK B b) (Wd B b) (Vd B b) N) N).2))) ?_ ?_ mF 0 x1 (Nat.lt_of_le_of_lt hN (by decide)) (Nat.zero_le _) ⟨hI0, rfl⟩
  · rintro n s ⟨g1, g2⟩
    refine Or.inl ⟨g2, s, ?_, g1⟩
    show f_X5_tell_L9 (n + 1) (nI N) s = _
    rw [f_X5_tell_L9, (tlG_F hG g1.1).2.1.1, if_pos (nI_le (Nat.le_refl _) (by omega))]
  · rintro n j s hj ⟨g1, g2⟩ ih
    rw [f_X5_tell_L9, (tlG_F hG g1.1).2.1.1, if_neg (nI_ge hj (by omega)), nI_1]
    have e := ffF_0 g2
    rcases line_x hG g1 hj (ffF_no g2) with ⟨a1, s1, a2, a3⟩ | ⟨a1, a2⟩
    · rw [a2, Option.bind_some, if_pos rfl]
      exact ih s1 ⟨a3, by rw [e]; exact a1⟩
    · have st : ffF (lnF (kdK B b) (Wd B b) (Vd B b) N) N = lnF (kdK B b) (Wd B b) (Vd B b) N j := by
        rw [ffF_st N (show j + 1 ≤ N by omega) (by rw [e]; exact a1), e]
      have lc := (lnF_c hG.1 hj a1).2.2.2
      rw [st, a2, Option.bind_some, if_neg (nI_n0 a1 lc)]
      exact Or.inr ⟨a1, _, rfl, xF_set (xF_mo g1.1 (fun q c hq => Or.inl hq)) (Or.inr ⟨rfl, rfl⟩), xs_eq _ _ _ _⟩
end TP
