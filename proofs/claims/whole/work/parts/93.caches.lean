/-! ===== the class's nets and tables, when they are asked for ===== -/
section SD
variable {np rt : Nat} {x x' : mX} {y : mY}
def chX (q c : Nat) : Prop := scX q c ∨ (222 ≤ q ∧ q ≤ 239) ∨ (q = 0 ∧ (c = 6 ∨ c = 8)) ∨ q = 256 ∨ q = 257
theorem IV_c (h : IV np rt x y) (hx : eqX chX x x') (hP : cP x' (y.1 289)) (hL : cL x' (y.1 289)) : IV np rt x' y := by
  obtain ⟨h1, h2, h3, h4, h5, h6, h7, h8, h9⟩ := h
  have rx : ∀ q, (∀ c, ¬ chX q c) → x'.1 q = x.1 q := fun q hq => eqX_row hx hq
  refine ⟨?_, h2, ?_, ?_, ?_, hP, hL, h8, h9⟩
  · exact hsR_cg (fun q q1 q2 => rx q (fun c => by unfold chX scX; omega)) h1
  · exact iH_mo (fun q q1 q2 => rx q (fun c => by unfold chX scX; omega)) rfl rfl rfl h3
  · exact iS_mo (hx 0 4 (by unfold chX scX; omega)) (fun q q1 q2 => rx q (fun c => by unfold chX scX; omega)) rfl rfl h4
  · exact iT_mo (fun c hc => hx 1 c (by unfold chX scX; omega)) (rx 7 (fun c => by unfold chX scX; omega)) rfl rfl rfl h5
theorem sW_b8 {σ : Nat → Int32} (h : sW σ np) : b8 (σ 0) ∧ b8 (σ 2) := ⟨fun i hi => Nat.lt_of_lt_of_le (h.2.2.2.1 i hi) h.1, fun i hi => Nat.lt_of_lt_of_le (h.2.2.2.2.1 i hi) h.1⟩
theorem presentNet_ok (h : IV np rt x y) : ∃ x1, f_X10_presentNet x = some (222, x1) ∧ IV np rt x1 y ∧ x1.1 0 6 = 0 := by
  unfold f_X10_presentNet
  by_cases c : x.1 0 6 = 0
  · rw [if_pos c]
    exact ⟨x, rfl, h, c⟩
  · rw [if_neg c]
    have hW := h.1.1
    have hR := h.1.2
    obtain ⟨V, v1, v2⟩ := live_ok x hR hW
    rw [v1, Option.bind_some, hR.2.2.1]
    obtain ⟨x1, e1, w1, n1⟩ := build_ok (a := 222) (Or.inl rfl) (P := y.1 289 0) (L := V) x hR hW (sW_b8 hW).1 (fun l hl => ((v2 l).mp hl).1)
    rw [e1, Option.bind_some]
    unfold f_X1_forget
    rw [m_let, m_let, m_let]
    refine ⟨_, rfl, IV_c h (fun q c hq => ?_) ?_ ?_, xs_eq _ _ _ _⟩
    · unfold chX at hq
      by_cases e0 : q = 0
      · subst e0
        rw [xs_ec (by omega), xs_ne (by decide), w1.1 0 (by decide)]
      · rw [xs_ne e0, xs_ne (by omega), w1.1 q (by omega)]
    · intro _
      refine ⟨V, v2, n_ok_cg (fun q q1 q2 => ?_) n1, Or.inl ?_⟩
      · rw [xs_ne (by omega), xs_ne (by omega)]
      · rw [xs_ne (by decide), xs_eq]
    · refine cL_mo (x := x) ?_ (fun q q1 q2 => ?_) ?_ (fun q q1 q2 => ?_) h.2.2.2.2.2.2.1
      · rw [xs_ec (by decide), xs_ne (by decide), w1.1 0 (by decide)]
      · rw [xs_ne (by omega), xs_ne (by omega), w1.1 q (by omega)]
      · rw [xs_ne (by decide), xs_ne (by decide), w1.1 234 (by decide)]
      · rw [xs_ne (by omega), xs_ne (by omega), w1.1 q (by omega)]
theorem learntNet_ok (h : IV np rt x y) : ∃ x1, f_X10_learntNet x = some (228, x1) ∧ IV np rt x1 y ∧ x1.1 0 8 = 0 := by
  unfold f_X10_learntNet
  by_cases c : x.1 0 8 = 0
  · rw [if_pos c]
    exact ⟨x, rfl, h, c⟩
  · rw [if_neg c]
    have hW := h.1.1
    have hR := h.1.2
    rw [hR.2.2.2.2.2.1, hR.2.2.2.2.2.2.1]
    obtain ⟨x1, e1, w1, n1⟩ := build_ok (a := 228) (Or.inr (Or.inl rfl)) (P := y.1 289 2) (L := y.1 289 3) x hR hW (sW_b8 hW).2 (fun l hl => (hW.2.2.2.2.2.1 l hl).1)
    rw [e1, Option.bind_some]
    unfold f_X7_forget
    rw [m_let, m_let, m_let]
    refine ⟨_, rfl, IV_c h (fun q c hq => ?_) ?_ ?_, xs_eq _ _ _ _⟩
    · unfold chX at hq
      by_cases e0 : q = 0
      · subst e0
        rw [xs_ec (by omega), xs_ne (by decide), w1.1 0 (by decide)]
      · rw [xs_ne e0, xs_ne (by omega), w1.1 q (by omega)]
    · refine cP_mo (x := x) ?_ (fun q q1 q2 => ?_) ?_ ?_ ?_ h.2.2.2.2.2.1
      · rw [xs_ec (by decide), xs_ne (by decide), w1.1 0 (by decide)]
      · rw [xs_ne (by omega), xs_ne (by omega), w1.1 q (by omega)]
      · rw [xs_ne (by decide), xs_ne (by decide), w1.1 256 (by decide)]
      · rw [xs_ne (by decide), xs_ne (by decide), w1.1 256 (by decide)]
      · rw [xs_ne (by decide), xs_ne (by decide), w1.1 257 (by decide)]
    · intro _
      refine ⟨n_ok_cg (fun q q1 q2 => ?_) n1, fun q hq hb => ?_⟩
      · rw [xs_ne (by omega), xs_ne (by omega)]
      · rw [xs_ne (by decide), xs_eq, b_0] at hb
        cases hb
/-- the tables of a root, laid -/
theorem prep_ok {r : Nat} (hr : r < 8) (h : IV np rt x y) (h8 : x.1 0 8 = 0) : ∃ x1, f_X7_prepare (nI r) x = some x1 ∧ IV np rt x1 y ∧ x1.1 0 8 = 0 ∧ ct_r x1.1 (y.1 289) (y.1 289 2) (y.1 289 3) r := by
  obtain ⟨c1, c2⟩ := h.2.2.2.2.2.2.1 h8
  obtain ⟨x1, e1, w1, t1, r1⟩ := prepare_ok hr x (sN_learnt h.1.1) c1 c2
  have w : ∀ q c, ¬ (234 ≤ q ∧ q ≤ 239) → x1.1 q c = x.1 q c := fun q c hq => w1.1 q c (fun z => hq (pr_W_row z))
  have wr : ∀ q, ¬ (234 ≤ q ∧ q ≤ 239) → x1.1 q = x.1 q := fun q hq => funext fun c => w q c hq
  refine ⟨x1, e1, IV_c h (fun q c hq => w q c (fun z => hq (by unfold chX; omega))) ?_ ?_, by rw [w 0 8 (by omega)]; exact h8, r1⟩
  · exact cP_mo (w 0 6 (by omega)) (fun q q1 q2 => wr q (by omega)) (w 256 0 (by omega)) (w 256 2 (by omega)) (wr 257 (by omega)) h.2.2.2.2.2.1
  · exact fun _ => ⟨n_ok_cg (fun q q1 q2 => wr q (by omega)) c1, t1⟩
/-- two that can be sent between -/
def csd (σ : Nat → Int32) (np : Nat) (p1 p2 : Int32) (s d : Nat) : Prop := s < np ∧ d < np ∧ p1 = nI s ∧ p2 = nI d ∧ s ≠ d ∧ bt (σ 0) s = true ∧ bt (σ 0) d = true
theorem canSend_x (h : IV np rt x y) (p1 p2 : Int32) : (∃ s d, csd (y.1 289) np p1 p2 s d ∧ f_X10_canSend p1 p2 x = 1) ∨ ((∀ s d, ¬ csd (y.1 289) np p1 p2 s d) ∧ f_X10_canSend p1 p2 x = 0) := by
  have hn := h.1.1.1
  have hR := h.1.2
  unfold f_X10_canSend
  rcases isPost_x hn x hR.1 p1 with ⟨s, s1, rfl, s3⟩ | ⟨s1, s3⟩
  · rw [s3, if_neg (by decide)]
    rcases isPost_x hn x hR.1 p2 with ⟨d, d1, rfl, d3⟩ | ⟨d1, d3⟩
    · rw [d3, if_neg (by decide), hR.2.2.1]
      have un : ∀ s' d', csd (y.1 289) np (nI s) (nI d) s' d' → s' = s ∧ d' = d := fun s' d' z => ⟨((nI_eq (by omega) (by have := z.1; omega)).mp z.2.2.1).symm, ((nI_eq (by omega) (by have := z.2.1; omega)).mp z.2.2.2.1).symm⟩
      by_cases c1 : s = d
      · right
        refine ⟨fun s' d' z => ?_, by rw [if_pos (by rw [c1])]⟩
        have := un s' d' z
        have := z.2.2.2.2.1
        omega
      rw [if_neg (fun z => c1 ((nI_eq (by omega) (by omega)).mp z))]
      by_cases c2 : bt (y.1 289 0) s = true
      · rw [if_neg (h10t (by omega) c2)]
        by_cases c3 : bt (y.1 289 0) d = true
        · left
          exact ⟨s, d, ⟨s1, d1, rfl, rfl, c1, c2, c3⟩, by rw [if_neg (h10t (by omega) c3)]⟩
        · right
          refine ⟨fun s' d' z => c3 ?_, by rw [if_pos (h10f (by omega) c3)]⟩
          have e := un s' d' z
          rw [← e.2]
          exact z.2.2.2.2.2.2
      · right
        refine ⟨fun s' d' z => c2 ?_, by rw [if_pos (h10f (by omega) c2)]⟩
        have e := un s' d' z
        rw [← e.1]
        exact z.2.2.2.2.2.1
    · right
      exact ⟨fun s' d' z => d1 d' z.2.1 z.2.2.2.1, by rw [d3, if_pos rfl]⟩
  · right
    exact ⟨fun s' d' z => s1 s' z.1 z.2.2.1, by rw [s3, if_pos rfl]⟩
theorem canSend_y (h : sW (y.1 289) np) (h17 : y.1 279 17 = nI np) (p1 p2 : Int32) : (∃ s d, csd (y.1 289) np p1 p2 s d ∧ f_X11_canSend p1 p2 y = some 1) ∨ ((∀ s d, ¬ csd (y.1 289) np p1 p2 s d) ∧ f_X11_canSend p1 p2 y = some 0) := by
  have hn := h.1
  unfold f_X11_canSend
  rcases isPost_y hn y h17 p1 with ⟨s, s1, rfl, s3⟩ | ⟨s1, s3⟩
  · rw [s3, Option.bind_some, if_neg (by decide)]
    rcases isPost_y hn y h17 p2 with ⟨d, d1, rfl, d3⟩ | ⟨d1, d3⟩
    · rw [d3, Option.bind_some, if_neg (by decide)]
      have un : ∀ s' d', csd (y.1 289) np (nI s) (nI d) s' d' → s' = s ∧ d' = d := fun s' d' z => ⟨((nI_eq (by omega) (by have := z.1; omega)).mp z.2.2.1).symm, ((nI_eq (by omega) (by have := z.2.1; omega)).mp z.2.2.2.1).symm⟩
      by_cases c1 : s = d
      · right
        refine ⟨fun s' d' z => ?_, by rw [if_pos (by rw [c1])]⟩
        have := un s' d' z
        have := z.2.2.2.2.1
        omega
      rw [if_neg (fun z => c1 ((nI_eq (by omega) (by omega)).mp z)), isOn_ok (by omega), Option.bind_some]
      by_cases c2 : bt (y.1 289 0) s = true
      · rw [if_pos c2, if_neg (by decide), isOn_ok (by omega), Option.bind_some]
        by_cases c3 : bt (y.1 289 0) d = true
        · left
          exact ⟨s, d, ⟨s1, d1, rfl, rfl, c1, c2, c3⟩, by rw [if_pos c3, if_neg (by decide)]⟩
        · right
          refine ⟨fun s' d' z => c3 ?_, by rw [if_neg c3, if_pos rfl]⟩
          have e := un s' d' z
          rw [← e.2]
          exact z.2.2.2.2.2.2
      · right
        refine ⟨fun s' d' z => c2 ?_, by rw [if_neg c2, if_pos rfl]⟩
        have e := un s' d' z
        rw [← e.1]
        exact z.2.2.2.2.2.1
    · right
      exact ⟨fun s' d' z => d1 d' z.2.1 z.2.2.2.1, by rw [d3, Option.bind_some, if_pos rfl]⟩
  · right
    exact ⟨fun s' d' z => s1 s' z.1 z.2.2.1, by rw [s3, Option.bind_some, if_pos rfl]⟩
theorem canGo_iv (h : IV np rt x y) (p1 p2 : Int32) : ∃ r x1, f_X10_canGo p1 p2 x = some (r, x1) ∧ IV np rt x1 y ∧ ((∃ s d, csd (y.1 289) np p1 p2 s d ∧ r = 1 ∧ x1.1 0 8 = 0 ∧ ct_r x1.1 (y.1 289) (y.1 289 2) (y.1 289 3) d) ∨ ((∀ s d, ¬ csd (y.1 289) np p1 p2 s d) ∧ r = 0)) := by
  unfold f_X10_canGo
  rcases canSend_x h p1 p2 with ⟨s, d, k, e⟩ | ⟨k, e⟩
  · rw [e, if_neg (by decide)]
    obtain ⟨x1, e1, i1, z1⟩ := learntNet_ok h
    rw [e1, Option.bind_some]
    dsimp only
    have hd : d < 8 := Nat.lt_of_lt_of_le k.2.1 h.1.1.1
    have ep : p2 = nI d := k.2.2.2.1
    rw [if_pos rfl, ep]
    obtain ⟨x2, e2, i2, z2, r2⟩ := prep_ok hd i1 z1
    rw [e2, Option.bind_some]
    exact ⟨1, x2, rfl, i2, Or.inl ⟨s, d, ep ▸ k, rfl, z2, r2⟩⟩
  · rw [e, if_pos rfl]
    exact ⟨0, x, rfl, h, Or.inr ⟨k, rfl⟩⟩
theorem hasWay_ok (h : IV np rt x y) (p1 p2 : Int32) : ∃ r x1, f_X10_hasWay p1 p2 x = some (r, x1) ∧ IV np rt x1 y ∧ ((∃ a v, pl (sA (y.1 289) (y.1 289 3)) (bS (y.1 289 2)) np p1 p2 a v ∧ r = 1 ∧ x1.1 0 8 = 0 ∧ ct_r x1.1 (y.1 289) (y.1 289 2) (y.1 289 3) a) ∨ ((∀ a v, ¬ pl (sA (y.1 289) (y.1 289 3)) (bS (y.1 289 2)) np p1 p2 a v) ∧ r = 0)) := by
  have hn := h.1.1.1
  have hR := h.1.2
  have hN := sN_learnt h.1.1
  unfold f_X10_hasWay
  rcases isPost_x hn x hR.1 p1 with ⟨a, a1, rfl, a3⟩ | ⟨a1, a3⟩
  · rw [a3, if_neg (by decide)]
    rcases isPost_x hn x hR.1 p2 with ⟨v, v1, rfl, v3⟩ | ⟨v1, v3⟩
    · rw [v3, if_neg (by decide)]
      have un : ∀ a' v', pl (sA (y.1 289) (y.1 289 3)) (bS (y.1 289 2)) np (nI a) (nI v) a' v' → a' = a ∧ v' = v := fun a' v' z => ⟨((nI_eq (by omega) (by have := z.1; omega)).mp z.2.2.1).symm, ((nI_eq (by omega) (by have := z.2.1; omega)).mp z.2.2.2.1).symm⟩
      by_cases c1 : a = v
      · refine ⟨0, x, by rw [if_pos (by rw [c1])], h, Or.inr ⟨fun a' v' z => ?_, rfl⟩⟩
        have := un a' v' z
        have := z.2.2.2.2.1
        omega
      rw [if_neg (fun z => c1 ((nI_eq (by omega) (by omega)).mp z))]
      obtain ⟨x1, e1, i1, z1⟩ := learntNet_ok h
      rw [e1, Option.bind_some]
      dsimp only
      rw [if_pos rfl, if_pos (in_ok (by omega) (by decide)), cl (by omega)]
      have nk := (i1.2.2.2.2.2.2.1 z1).1.2.2.2.1.1 a (by omega) v
      by_cases c2 : bt (x1.1 230 a) v = true
      · rw [if_neg (h10t (by omega) c2)]
        obtain ⟨x2, e2, i2, z2, r2⟩ := prep_ok (show a < 8 by omega) i1 z1
        rw [e2, Option.bind_some]
        exact ⟨1, x2, rfl, i2, Or.inl ⟨a, v, ⟨a1, v1, rfl, rfl, Ne.symm c1, g_sy hN.2.1.1 (nk.mp c2)⟩, rfl, z2, r2⟩⟩
      · rw [if_pos (h10f (by omega) c2)]
        refine ⟨0, x1, rfl, i1, Or.inr ⟨fun a' v' z => c2 (nk.mpr ?_), rfl⟩⟩
        have e := un a' v' z
        have g := z.2.2.2.2.2
        rw [e.1, e.2] at g
        exact g_sy hN.2.1.1 g
    · exact ⟨0, x, by rw [v3, if_pos rfl], h, Or.inr ⟨fun a' v' z => v1 v' z.2.1 z.2.2.2.1, rfl⟩⟩
  · exact ⟨0, x, by rw [a3, if_pos rfl], h, Or.inr ⟨fun a' v' z => a1 a' z.1 z.2.2.1, rfl⟩⟩
end SD
