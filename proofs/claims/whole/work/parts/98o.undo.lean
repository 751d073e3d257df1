/-! ===== calls undo, hold, restore ===== -/
section SW
variable {np rt : Nat} {x x' : mX} {y y' : mY} {p1 p2 p3 : Int32}
theorem undo_L {m : Nat} (hm : m < 40) (y : mY) : ∃ y1, f_X11_undo_L37 (nI (72 * m)) mF 0 y = some (1, y1) ∧ yF (fun q c => q = 289 ∨ (q = 279 ∧ c = 30)) y y1 ∧ (∀ c, c < 72 → y1.1 289 c = y.1 290 (72 * m + c)) ∧ y1.1 279 30 = 0 := by
  have z := lp_ok 72 (fun n b (s : mY) => f_X11_undo_L37 (nI (72 * m)) n b s) (fun j s => yF (fun q c => q = 289) y s ∧ ∀ c, c < j → s.1 289 c = y.1 290 (72 * m + c)) (P := fun r => r.1 = 1 ∧ yF (fun q c => q = 289 ∨ (q = 279 ∧ c = 30)) y r.2 ∧ (∀ c, c < 72 → r.2.1 289 c = y.1 290 (72 * m + c)) ∧ r.2.1 279 30 = 0) (by
    rintro n s ⟨h1, h2⟩
    show ∃ y1, f_X11_undo_L37 (nI (72 * m)) (n + 1) (nI 72) s = some y1 ∧ _
    rw [f_X11_undo_L37, if_pos (by decide), m_let]
    exact ⟨_, rfl, rfl, yF_set (yF_mo h1 (fun q c z => Or.inl z)) (Or.inr ⟨rfl, rfl⟩), fun c hc => by rw [ys_ne (by decide)]; exact h2 c hc, by rw [ys_eq]⟩) (by
    rintro n j s hj ⟨h1, h2⟩ ih
    show ∃ y1, f_X11_undo_L37 (nI (72 * m)) (n + 1) (nI j) s = some y1 ∧ _
    rw [f_X11_undo_L37, if_neg (show ¬ (72 : Int32) ≤ nI j from nI_ge (b := 72) hj (by decide)), nI_add, if_pos (in_ok (by omega) (by decide)), if_pos (in_ok hj (by decide)), cl (by omega), cl (by omega), m_let, nI_1]
    refine ih _ ⟨yF_set h1 rfl, fun c hc => ?_⟩
    by_cases e : c = j
    · subst e
      rw [ys_eq, h1.1 290 _ (by omega)]
    · rw [ys_ec e]
      exact h2 c (by omega)) mF 0 y (by decide) (by decide) ⟨yF_rf _ _, fun c hc => by omega⟩
  obtain ⟨r, e, k1, k2, k3, k4⟩ := z
  exact ⟨r.2, by rw [← k1]; exact e, k2, k3, k4⟩
theorem st_undo (h : IV np rt x y) : sam (f_X10_undo x) (f_X11_undo y) := by
  unfold f_X10_undo f_X11_undo f_X2_bring
  obtain ⟨h1, h2, ⟨k, t, e, k40, t40, e40, a0, a1, b0, b1, hist⟩, h4, h5, h6, h7, h8, h9⟩ := id h
  rw [a0, b0]
  by_cases c : k = 0
  · subst c
    rw [if_pos nI_0, if_pos nI_0, Option.bind_some]
    exact ⟨_, x, y, rfl, rfl, np, rt, h⟩
  · have nk : ¬ nI k = 0 := nI_ne0 (by omega) (by omega)
    rw [if_neg nk, if_neg nk, m_jn, a1]
    dsimp only
    have old := hist 1 (by decide) (by omega)
    have l2 := Nat.mod_lt (e + k - 1) (show 40 > 0 by decide)
    have l1 := Nat.mod_lt (t + 40 - 1) (show 40 > 0 by decide)
    obtain ⟨y2, g1, g2, g3, g4⟩ := undo_L l2 (m_ys y 279 27 (nI (k - 1)))
    have ey : (m_let (m_ys y 279 27 (nI k - 1)) fun y1 => (f_X11_undo_L37 ((72 : Int32) * (((y1.1 279 26) + (y1.1 279 27)) - ((y1.1 279 26) + (y1.1 279 27)) / (40 : Int32) * (40 : Int32))) mF (0 : Int32) y1)) = some (1, y2) := by
      rw [m_let, ys_eq, ys_ec (by decide), b1, nI_p (by omega), nI_add, mod40 _ (by omega), show e + (k - 1) = e + k - 1 by omega, show (72 : Int32) * nI ((e + k - 1) % 40) = nI (72 * ((e + k - 1) % 40)) from pk_mul 72 _]
      exact g1
    rw [ey]
    have fin : ∀ v, v = nI ((t + 40 - 1) % 40) → sam ((m_let (m_xs x 19 1 v) fun x3 => (m_let (m_xs x3 19 0 ((x3.1 19 0) - (1 : Int32))) fun x4 => (if m_in (x4.1 19 1) 40 = true then ((mRR x4.2.2 20 (x4.1 19 1).toNatClampNeg).bind fun q5 => ((f_X6_copy 14 q5 x4).bind fun q6 => (some ((1 : Int32), q6)))) else none))).bind fun q1 => (if q1.1 = 0 then (some ((0 : Int32), q1.2)) else (m_let (f_X10_allChanged q1.2) fun x2 => (some ((1 : Int32), x2))))) (some (1, y2)) := fun v hv => by
      subst hv
      rw [m_let, m_let, xs_ec (show (0 : Nat) ≠ 1 by decide), a0, nI_p (by omega)]
      have q1 : (m_xs (m_xs x 19 1 (nI ((t + 40 - 1) % 40))) 19 0 (nI (k - 1))).1 19 1 = nI ((t + 40 - 1) % 40) := (xs_ec (by decide)).trans (xs_eq _ _ _ _)
      rw [q1, if_pos (in_ok l1 (by decide)), cl (by omega), past_j _ l1, Option.bind_some]
      obtain ⟨x3, f1, f2, f3⟩ := copy_ok (d0 := 14) (s0 := 21 + 5 * ((t + 40 - 1) % 40)) (by omega) (m_xs (m_xs x 19 1 (nI ((t + 40 - 1) % 40))) 19 0 (nI (k - 1))) old.1 (sR_cg (x := x) (fun q q1 q2 => by rw [xs_ne (by omega), xs_ne (by omega)]) old.2)
      rw [f1, Option.bind_some, Option.bind_some]
      dsimp only
      rw [if_neg (show ¬ (1 : Int32) = 0 by decide)]
      unfold f_X10_allChanged
      rw [m_let, m_let, m_let]
      refine ⟨1, _, _, rfl, rfl, np, rt, ?_⟩
      generalize hx' : m_xs (m_xs x3 0 6 1) 0 8 1 = x'
      have X : ∀ q c, ¬ (14 ≤ q ∧ q ≤ 18) → ¬ (q = 19 ∧ c < 2) → ¬ (q = 0 ∧ (c = 6 ∨ c = 8)) → x'.1 q c = x.1 q c := fun q c n1 n2 n3 => by
        rw [← hx']
        have base : x3.1 q c = x.1 q c := by
          rw [f2.1 q c (by unfold cpW; omega)]
          by_cases e19 : q = 19
          · subst e19
            rw [xs_ec (by omega), xs_ec (by omega)]
          · rw [xs_ne e19, xs_ne e19]
        by_cases e0 : q = 0
        · subst e0
          rw [xs_ec (by omega), xs_ec (by omega), base]
        · rw [xs_ne e0, xs_ne e0, base]
      have XR : ∀ q, ¬ (14 ≤ q ∧ q ≤ 19) → q ≠ 0 → x'.1 q = x.1 q := fun q n1 n2 => funext fun c => X q c (by omega) (by omega) (by omega)
      have r14 : ∀ q, 14 ≤ q → q ≤ 18 → x'.1 q = x3.1 q := fun q q1 q2 => by rw [← hx', xs_ne (by omega), xs_ne (by omega)]
      have YF : ∀ q c, q ≠ 289 → ¬ (q = 279 ∧ (c = 30 ∨ c = 27)) → y2.1 q c = y.1 q c := fun q c n1 n2 => by
        rw [g2.1 q c (by omega)]
        by_cases e9 : q = 279
        · subst e9
          rw [ys_ec (by omega)]
        · rw [ys_ne e9]
      have YR : ∀ q, q ≠ 289 → q ≠ 279 → y2.1 q = y.1 q := fun q n1 n2 => funext fun c => YF q c n1 (by omega)
      refine ⟨?_, ?_, ⟨k - 1, (t + 40 - 1) % 40, e, by omega, l1, e40, ?_, ?_, ?_, ?_, fun j j1 j2 => ?_⟩, ?_, ?_, fun z => ?_, fun z => ?_, kq_0 g4, ?_⟩
      · refine hsR_c (g := fun c => y.1 290 (72 * ((e + k - 1) % 40) + c)) (fun c hc => by rw [g3 c hc, ys_ne (by decide)]) ⟨old.1, sR_cg (x := x3) (fun q q1 q2 => r14 q q1 q2) f3⟩
      · exact iR_mo (YF 279 17 (by decide) (by omega)) (YF 279 18 (by decide) (by omega)) h2
      · rw [← hx', xs_ne (by decide), xs_ne (by decide), f2.1 19 0 (by unfold cpW; omega), xs_eq]
      · rw [← hx', xs_ne (by decide), xs_ne (by decide), f2.1 19 1 (by unfold cpW; omega), xs_ec (by decide), xs_eq]
      · rw [g2.1 279 27 (by omega), ys_eq]
      · rw [YF 279 26 (by decide) (by omega)]
        exact b1
      · have i1 : ((t + 40 - 1) % 40 + 40 - j) % 40 = (t + 40 - (j + 1)) % 40 := by omega
        have i2 : e + (k - 1) - j = e + k - (j + 1) := by omega
        rw [i1, i2, YR 290 (by decide) (by decide)]
        have l3 := Nat.mod_lt (t + 40 - (j + 1)) (show 40 > 0 by decide)
        exact hsR_cg (fun q q1 q2 => XR q (by omega) (by omega)) (hist (j + 1) (by omega) (by omega))
      · exact iS_mo (X 0 4 (by omega) (by omega) (by omega)) (fun q q1 q2 => XR q (by omega) (by omega)) (YR 291 (by decide) (by decide)) (YR 292 (by decide) (by decide)) h4
      · exact iT_mo (fun c hc => X 1 c (by omega) (by omega) (by omega)) (XR 7 (by omega) (by decide)) (YF 279 2 (by decide) (by omega)) (YF 279 16 (by decide) (by omega)) (YR 280 (by decide) (by decide)) h5
      · rw [← hx', xs_ec (by decide), xs_eq] at z
        exact absurd z (by decide)
      · rw [← hx', xs_eq] at z
        exact absurd z (by decide)
      · unfold yKs
        rw [g2.2]
        exact h9
    by_cases ct : t = 0
    · subst ct
      rw [if_pos (show nI 0 ≤ (0 : Int32) by decide)]
      exact fin 39 (by decide)
    · rw [if_neg (nI_nle (by omega) (by omega)), nI_p (by omega)]
      exact fin _ (by rw [show (t + 40 - 1) % 40 = t - 1 by omega])
theorem hold_L {s : Nat} (hs : s < 3) (y : mY) : ∃ y1, f_X11_hold_L13 (nI s) mF 0 y = some (1, y1) ∧ yF (fun q c => (q = 291 ∧ 72 * s ≤ c ∧ c < 72 * s + 72) ∨ (q = 292 ∧ c = s)) y y1 ∧ (∀ c, c < 72 → y1.1 291 (72 * s + c) = y.1 289 c) ∧ y1.1 292 s = 1 := by
  have z := lp_ok 72 (fun n b (s' : mY) => f_X11_hold_L13 (nI s) n b s') (fun j s' => yF (fun q c => q = 291 ∧ 72 * s ≤ c ∧ c < 72 * s + 72) y s' ∧ ∀ c, c < j → s'.1 291 (72 * s + c) = y.1 289 c) (P := fun r => r.1 = 1 ∧ yF (fun q c => (q = 291 ∧ 72 * s ≤ c ∧ c < 72 * s + 72) ∨ (q = 292 ∧ c = s)) y r.2 ∧ (∀ c, c < 72 → r.2.1 291 (72 * s + c) = y.1 289 c) ∧ r.2.1 292 s = 1) (by
    rintro n s' ⟨h1, h2⟩
    show ∃ y1, f_X11_hold_L13 (nI s) (n + 1) (nI 72) s' = some y1 ∧ _
    rw [f_X11_hold_L13, if_pos (by decide), if_pos (in_ok hs (by decide)), m_let, cl (by omega), nar_1]
    exact ⟨_, rfl, rfl, yF_set (yF_mo h1 (fun q c z => Or.inl z)) (Or.inr ⟨rfl, rfl⟩), fun c hc => by rw [ys_ne (by decide)]; exact h2 c hc, by rw [ys_eq]⟩) (by
    rintro n j s' hj ⟨h1, h2⟩ ih
    show ∃ y1, f_X11_hold_L13 (nI s) (n + 1) (nI j) s' = some y1 ∧ _
    rw [f_X11_hold_L13, if_neg (show ¬ (72 : Int32) ≤ nI j from nI_ge (b := 72) hj (by decide)), show (72 : Int32) * nI s = nI (72 * s) from pk_mul 72 s, nI_add, if_pos (in_ok hj (by decide)), if_pos (in_ok (by omega) (by decide)), cl (by omega), cl (by omega), m_let, nI_1]
    refine ih _ ⟨yF_set h1 ⟨rfl, by omega, by omega⟩, fun c hc => ?_⟩
    by_cases e : c = j
    · subst e
      rw [ys_eq, h1.1 289 _ (by omega)]
    · rw [ys_ec (by omega)]
      exact h2 c (by omega)) mF 0 y (by decide) (by decide) ⟨yF_rf _ _, fun c hc => by omega⟩
  obtain ⟨r, e, k1, k2, k3, k4⟩ := z
  exact ⟨r.2, by rw [← k1]; exact e, k2, k3, k4⟩
theorem slot_c (p : Int32) : (∃ s, s < 3 ∧ p = nI s ∧ ¬ p < 0 ∧ p < 3 ∧ ¬ (3 : Int32) ≤ p ∧ f_X11_in p 0 2 = 1) ∨ ((p < 0 ∨ (¬ p < 0 ∧ ¬ p < 3 ∧ (3 : Int32) ≤ p)) ∧ f_X11_in p 0 2 = 0) := by
  rcases in_cases p (n := 3) (by decide) with ⟨k, k1, rfl, k3⟩ | ⟨k1, k3⟩
  · rw [show nI 3 - 1 = (2 : Int32) by decide] at k3
    exact Or.inl ⟨k, k1, rfl, nI_pos (by omega), nI_lt (b := 3) k1 (by decide), nI_ge (b := 3) k1 (by decide), k3⟩
  · rw [show nI 3 - 1 = (2 : Int32) by decide] at k3
    refine Or.inr ⟨?_, k3⟩
    rcases cin_cases p (n := 3) (by decide) with ⟨k, j1, j2, _⟩ | ⟨_, j | ⟨j1, j2⟩⟩
    · exact absurd j2 (k1 k j1)
    · exact Or.inl j
    · exact Or.inr ⟨j1, Int32.not_lt.mpr j2, j2⟩
theorem st_hold (h : IV np rt x y) : sam (f_X10_hold p1 x) (f_X11_hold p1 y) := by
  unfold f_X10_hold f_X11_hold
  rcases slot_c p1 with ⟨s, hs, rfl, k1, k2, _, k3⟩ | ⟨k1, k3⟩
  · obtain ⟨h1, h2, h3, h4, h5, h6, h7, h8, h9⟩ := id h
    obtain ⟨x1, e1, w1, r1⟩ := copy_ok (d0 := 264 + 5 * s) (s0 := 14) (by omega) x h1.1 h1.2
    obtain ⟨y1, e2, w2, g1, g2⟩ := hold_L hs y
    rw [if_neg k1, if_pos k2, if_pos (in_ok hs (by decide)), cl (by omega), slots_j _ hs, Option.bind_some, e1, Option.bind_some, m_let, k3, if_neg (show ¬ (1 : Int32) = 0 by decide), e2]
    refine ⟨1, _, y1, rfl, rfl, np, rt, ?_⟩
    have e04 : x1.1 0 4 = x.1 0 4 := w1.1 0 4 (by unfold cpW; omega)
    rw [e04]
    generalize hx' : m_xs x1 0 4 (x.1 0 4 ||| ((1 : Int32) <<< (nI s &&& 31))) = x'
    have X : ∀ q c, ¬ (264 + 5 * s ≤ q ∧ q ≤ 264 + 5 * s + 4) → ¬ (q = 0 ∧ c = 4) → x'.1 q c = x.1 q c := fun q c n1 n2 => by
      rw [← hx']
      by_cases e0 : q = 0
      · subst e0
        rw [xs_ec (by omega), w1.1 0 c (by unfold cpW; omega)]
      · rw [xs_ne e0, w1.1 q c n1]
    have XR : ∀ q, ¬ (264 ≤ q ∧ q ≤ 278) → q ≠ 0 → x'.1 q = x.1 q := fun q n1 n2 => funext fun c => X q c (by omega) (by omega)
    have x04 : x'.1 0 4 = x.1 0 4 ||| ((1 : Int32) <<< (nI s &&& 31)) := by rw [← hx', xs_eq]
    have YR : ∀ q, q ≠ 291 → q ≠ 292 → y1.1 q = y.1 q := fun q n1 n2 => yF_row w2 (fun c => by omega)
    have es := YR 289 (by decide) (by decide)
    have e279 := YR 279 (by decide) (by decide)
    refine ⟨?_, ?_, ?_, ⟨fun i hi => ?_, fun i hi => ?_⟩, ?_, ?_, ?_, ?_, ?_⟩
    · rw [es]
      exact hsR_cg (fun q q1 q2 => XR q (by omega) (by omega)) h1
    · exact iR_mo (by rw [e279]) (by rw [e279]) h2
    · exact iH_mo (fun q q1 q2 => XR q (by omega) (by omega)) (by rw [e279]) (by rw [e279]) (YR 290 (by decide) (by decide)) h3
    · rw [x04, b_or, b_bit (by omega), Bool.or_eq_true, decide_eq_true_eq] at hi
      rcases hi with hi | rfl
      · exact h4.1 i hi
      · exact hs
    · rw [x04, b_or, b_bit (by omega), Bool.or_eq_true, decide_eq_true_eq]
      by_cases e : i = s
      · subst e
        left
        refine ⟨Or.inr rfl, g2, hsR_c (g := y.1 289) (fun c hc => g1 c hc) ⟨h1.1, sR_cg (x := x1) (fun q q1 q2 => ?_) r1⟩⟩
        rw [← hx', xs_ne (by omega)]
      · rw [w2.1 292 i (by omega)]
        rcases h4.2 i hi with ⟨u1, u2, u3⟩ | ⟨u1, u2⟩
        · left
          refine ⟨Or.inl u1, u2, hsR_c (g := fun c => y.1 291 (72 * i + c)) (fun c hc => w2.1 291 _ (by omega)) (hsR_cg (fun q q1 q2 => funext fun c => X q c (by omega) (by omega)) u3)⟩
        · right
          exact ⟨fun z => z.elim u1 e, u2⟩
    · exact iT_mo (fun c hc => X 1 c (by omega) (by omega)) (XR 7 (by omega) (by decide)) (by rw [e279]) (by rw [e279]) (YR 280 (by decide) (by decide)) h5
    · rw [es]
      exact cP_mo (X 0 6 (by omega) (by omega)) (fun q q1 q2 => XR q (by omega) (by omega)) (X 256 0 (by omega) (by omega)) (X 256 2 (by omega) (by omega)) (XR 257 (by omega) (by decide)) h6
    · rw [es]
      exact cL_mo (X 0 8 (by omega) (by omega)) (fun q q1 q2 => XR q (by omega) (by omega)) (X 234 2 (by omega) (by omega)) (fun q q1 q2 => XR q (by omega) (by omega)) h7
    · exact kq_mo (by rw [e279]) (fun q hq => YR q (by omega) (by omega)) h8
    · unfold yKs
      rw [w2.2]
      exact h9
  · rw [k3, if_pos rfl]
    rcases k1 with k1 | ⟨k1, k2, _⟩
    · rw [if_pos k1]
      exact ⟨_, x, y, rfl, rfl, np, rt, h⟩
    · rw [if_neg k1, if_neg k2]
      exact ⟨_, x, y, rfl, rfl, np, rt, h⟩
theorem restore_L {s : Nat} (hs : s < 3) (y : mY) (kk : mY → Option (Int32 × mY)) : ∃ y1, f_X11_restore_L22 (nI s) mF 0 y kk = kk y1 ∧ yF (fun q c => q = 289) y y1 ∧ (∀ c, c < 72 → y1.1 289 c = y.1 291 (72 * s + c)) := by
  have z := lp_up 72 (fun n b (s' : mY) => f_X11_restore_L22 (nI s) n b s' kk) (fun j s' => yF (fun q c => q = 289) y s' ∧ ∀ c, c < j → s'.1 289 c = y.1 291 (72 * s + c)) (fun o => ∃ y1, o = kk y1 ∧ yF (fun q c => q = 289) y y1 ∧ (∀ c, c < 72 → y1.1 289 c = y.1 291 (72 * s + c))) (by
    rintro n s' ⟨h1, h2⟩
    show ∃ y1, f_X11_restore_L22 (nI s) (n + 1) (nI 72) s' kk = kk y1 ∧ _
    rw [f_X11_restore_L22, if_pos (by decide)]
    exact ⟨s', rfl, h1, h2⟩) (by
    rintro n j s' hj ⟨h1, h2⟩ ih
    show ∃ y1, f_X11_restore_L22 (nI s) (n + 1) (nI j) s' kk = kk y1 ∧ _
    rw [f_X11_restore_L22, if_neg (show ¬ (72 : Int32) ≤ nI j from nI_ge (b := 72) hj (by decide)), show (72 : Int32) * nI s = nI (72 * s) from pk_mul 72 s, nI_add, if_pos (in_ok (by omega) (by decide)), if_pos (in_ok hj (by decide)), cl (by omega), cl (by omega), m_let, nI_1]
    refine ih _ ⟨yF_set h1 rfl, fun c hc => ?_⟩
    by_cases e : c = j
    · subst e
      rw [ys_eq, h1.1 291 _ (by omega)]
    · rw [ys_ec e]
      exact h2 c (by omega)) mF 0 y (by decide) (by decide) ⟨yF_rf _ _, fun c hc => by omega⟩
  exact z
theorem st_restore (h : IV np rt x y) : sam (f_X10_restore p1 x) (f_X11_restore p1 y) := by
  unfold f_X10_restore f_X11_restore
  rcases slot_c p1 with ⟨s, hs, rfl, k1, _, k2, k3⟩ | ⟨k1, k3⟩
  · obtain ⟨h1, h2, h3, h4, h5, h6, h7, h8, h9⟩ := id h
    rw [if_neg k1, if_neg k2, k3, if_neg (show ¬ (1 : Int32) = 0 by decide), if_pos (in_ok hs (by decide)), cl (by omega)]
    rcases h4.2 s hs with ⟨u1, u2, u3⟩ | ⟨u1, u2⟩
    · obtain ⟨x1, e1, w1, r1⟩ := copy_ok (d0 := 14) (s0 := 264 + 5 * s) (by omega) x u3.1 u3.2
      obtain ⟨y1, e2, w2, g1⟩ := restore_L hs y (fun y2 => (m_let (m_ys y2 279 27 (0 : Int32)) fun y3 => (m_let (m_ys y3 279 30 (0 : Int32)) fun y4 => (some ((1 : Int32), y4)))))
      rw [if_neg (h10t (by omega) u1), if_pos (in_ok hs (by decide)), slots_j _ hs, Option.bind_some, e1, Option.bind_some, u2, if_neg (show ¬ (1 : Int32) = 0 by decide), e2]
      unfold f_X2_forget f_X10_allChanged
      simp only [m_let]
      refine ⟨1, _, _, rfl, rfl, np, rt, ?_⟩
      generalize hx' : m_xs (m_xs (m_xs x1 19 0 0) 0 6 1) 0 8 1 = x'
      generalize hy' : m_ys (m_ys y1 279 27 0) 279 30 0 = y'
      have X : ∀ q c, ¬ (14 ≤ q ∧ q ≤ 18) → ¬ (q = 19 ∧ c = 0) → ¬ (q = 0 ∧ (c = 6 ∨ c = 8)) → x'.1 q c = x.1 q c := fun q c n1 n2 n3 => by
        rw [← hx']
        by_cases e0 : q = 0
        · subst e0
          rw [xs_ec (by omega), xs_ec (by omega), xs_ne (by decide), w1.1 0 c (by unfold cpW; omega)]
        · rw [xs_ne e0, xs_ne e0]
          by_cases e19 : q = 19
          · subst e19
            rw [xs_ec (by omega), w1.1 19 c (by unfold cpW; omega)]
          · rw [xs_ne e19, w1.1 q c (by unfold cpW; omega)]
      have XR : ∀ q, ¬ (14 ≤ q ∧ q ≤ 19) → q ≠ 0 → x'.1 q = x.1 q := fun q n1 n2 => funext fun c => X q c (by omega) (by omega) (by omega)
      have r14 : ∀ q, 14 ≤ q → q ≤ 18 → x'.1 q = x1.1 q := fun q q1 q2 => by rw [← hx', xs_ne (by omega), xs_ne (by omega), xs_ne (by omega)]
      have YF : ∀ q c, q ≠ 289 → ¬ (q = 279 ∧ (c = 30 ∨ c = 27)) → y'.1 q c = y.1 q c := fun q c n1 n2 => by
        rw [← hy']
        by_cases e9 : q = 279
        · subst e9
          rw [ys_ec (by omega), ys_ec (by omega), w2.1 279 c (by omega)]
        · rw [ys_ne e9, ys_ne e9, w2.1 q c n1]
      have YR : ∀ q, q ≠ 289 → q ≠ 279 → y'.1 q = y.1 q := fun q n1 n2 => funext fun c => YF q c n1 (by omega)
      have e289 : y'.1 289 = y1.1 289 := by rw [← hy', ys_ne (by decide), ys_ne (by decide)]
      obtain ⟨k, t, e, k40, t40, e40, a0, a1, b0, b1, hist⟩ := h3
      refine ⟨?_, ?_, ⟨0, t, e, by omega, t40, e40, ?_, ?_, ?_, ?_, fun j j1 j2 => by omega⟩, ?_, ?_, fun z => ?_, fun z => ?_, kq_0 ?_, ?_⟩
      · rw [e289]
        exact hsR_c (g := fun c => y.1 291 (72 * s + c)) (fun c hc => g1 c hc) ⟨u3.1, sR_cg (x := x1) (fun q q1 q2 => r14 q q1 q2) r1⟩
      · exact iR_mo (YF 279 17 (by decide) (by omega)) (YF 279 18 (by decide) (by omega)) h2
      · rw [← hx', xs_ne (by decide), xs_ne (by decide), xs_eq]
        rfl
      · rw [X 19 1 (by omega) (by omega) (by omega)]
        exact a1
      · rw [← hy', ys_ec (by decide), ys_eq]
        rfl
      · rw [YF 279 26 (by decide) (by omega)]
        exact b1
      · exact iS_mo (X 0 4 (by omega) (by omega) (by omega)) (fun q q1 q2 => XR q (by omega) (by omega)) (YR 291 (by decide) (by decide)) (YR 292 (by decide) (by decide)) h4
      · exact iT_mo (fun c hc => X 1 c (by omega) (by omega) (by omega)) (XR 7 (by omega) (by decide)) (YF 279 2 (by decide) (by omega)) (YF 279 16 (by decide) (by omega)) (YR 280 (by decide) (by decide)) h5
      · rw [← hx', xs_ec (by decide), xs_eq] at z
        exact absurd z (by decide)
      · rw [← hx', xs_eq] at z
        exact absurd z (by decide)
      · rw [← hy', ys_eq]
      · unfold yKs
        rw [← hy', ys_2, ys_2, w2.2]
        exact h9
    · rw [if_pos (h10f (by omega) u1), u2, if_pos rfl]
      exact ⟨_, x, y, rfl, if_pos (in_ok hs (by decide)), np, rt, h⟩
  · rw [k3, if_pos rfl]
    rcases k1 with k1 | ⟨k1, _, k2⟩
    · rw [if_pos k1]
      exact ⟨_, x, y, rfl, rfl, np, rt, h⟩
    · rw [if_neg k1, if_pos k2]
      exact ⟨_, x, y, rfl, rfl, np, rt, h⟩
end SW
