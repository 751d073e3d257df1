/-! ===== calls that change the state: join, cost, power, link ===== -/
section ST
variable {np rt : Nat} {x x' : mX} {y y' : mY} {σ σ' : Nat → Int32} {P L : Int32} {p1 p2 p3 : Int32}
def eEnd (σ σ' : Nat → Int32) (L : Int32) : Prop := ∀ l, bt L l = true → σ' (8 + l) = σ (8 + l) ∧ σ' (24 + l) = σ (24 + l)
theorem sE_cg {l a b : Nat} (h : σ' (8 + l) = σ (8 + l) ∧ σ' (24 + l) = σ (24 + l)) : sE σ' l a b ↔ sE σ l a b := by
  unfold sE
  rw [h.1, h.2]
theorem sA_cg (h : eEnd σ σ' L) : sA σ' L = sA σ L := by
  funext p q
  apply propext
  constructor
  · rintro ⟨p8, q8, l, l1, l2, l3⟩
    exact ⟨p8, q8, l, l1, l2, (sE_cg (h l l2)).mp l3⟩
  · rintro ⟨p8, q8, l, l1, l2, l3⟩
    exact ⟨p8, q8, l, l1, l2, (sE_cg (h l l2)).mpr l3⟩
theorem n_ok_sg {X : Nat → Nat → Int32} {a : Nat} (h : eEnd σ σ' L) (k : n_ok X a σ P L) : n_ok X a σ' P L := by
  unfold n_ok
  rw [sA_cg h]
  exact ⟨k.1, k.2.1, k.2.2.1, k.2.2.2.1, k.2.2.2.2.1, fun l p q l1 l2 p8 q8 he => k.2.2.2.2.2 l p q l1 l2 p8 q8 ((sE_cg (h l l2)).mp he)⟩
theorem ct_v_sg {X : Nat → Nat → Int32} {r v n p rd bl : Nat} (h : eEnd σ σ' L) (k : ct_v X σ L r v n p rd bl) : ct_v X σ' L r v n p rd bl := by
  obtain ⟨k1, k2, k3, k4, ⟨l, l1, l2, l3⟩, m, m1, m2, m3⟩ := k
  exact ⟨k1, k2, k3, k4, ⟨l, l1, (sE_cg (h l l1)).mpr l2, l3⟩, m, m1, (sE_cg (h m m1)).mpr m2, m3⟩
theorem t_ok_sg {X : Nat → Nat → Int32} (h : eEnd σ σ' L) (k : t_ok X σ P L) : t_ok X σ' P L := by
  intro q hq hb v hv
  rw [sA_cg h]
  rcases k q hq hb v hv with ⟨n, p, t, f, rd, bl, t1, t2⟩ | z
  · left
    exact ⟨n, p, t, f, rd, bl, by rw [sA_cg h]; exact t1, ct_v_sg h t2⟩
  · exact Or.inr z
theorem cL_sg (h : cL x σ) (h2 : σ' 2 = σ 2) (h3 : σ' 3 = σ 3) (he : eEnd σ σ' (σ 3)) : cL x σ' := by
  intro k
  rw [h2, h3]
  exact ⟨n_ok_sg he (h k).1, t_ok_sg he (h k).2⟩
theorem kq_sg (h : kq y) (hr : ∀ q, 296 ≤ q → q ≤ 301 → y'.1 q = y.1 q) (h30 : y'.1 279 30 = y.1 279 30) (h2 : y'.1 289 2 = y.1 289 2) (h3 : y'.1 289 3 = y.1 289 3) (he : eEnd (y.1 289) (y'.1 289) (y.1 289 3)) : kq y' := by
  intro z
  rw [h30] at z
  have k := h z
  unfold k_ok ky_e ky_g at k ⊢
  rw [h2, h3, sA_cg he, hr 296 (by decide) (by decide), hr 297 (by decide) (by decide), hr 298 (by decide) (by decide), hr 299 (by decide) (by decide), hr 300 (by decide) (by decide), hr 301 (by decide) (by decide)]
  exact k
theorem kq_0 (h : y.1 279 30 = 0) : kq y := fun z => absurd h z
theorem sm_e (h : σ' 4 = σ 4) : sm σ' = sm σ := by unfold sm; rw [h]
theorem sL_sg {V : Int32} (h0 : σ' 0 = σ 0) (h1 : σ' 1 = σ 1) (h4 : σ' 4 = σ 4) (he : ∀ l, l < sm σ → σ' (8 + l) = σ (8 + l) ∧ σ' (24 + l) = σ (24 + l)) (h : sL σ V) : sL σ' V := by
  intro l
  rw [h l, h0, h1, sm_e h4]
  constructor
  · rintro ⟨k1, k2, k3⟩
    exact ⟨k1, k2, fun a b ha hb z => k3 a b ha hb ((sE_cg (he l k1)).mp z)⟩
  · rintro ⟨k1, k2, k3⟩
    exact ⟨k1, k2, fun a b ha hb z => k3 a b ha hb ((sE_cg (he l k1)).mpr z)⟩
theorem cP_sg (h : cP x σ) (h0 : σ' 0 = σ 0) (h1 : σ' 1 = σ 1) (h4 : σ' 4 = σ 4) (he : ∀ l, l < sm σ → σ' (8 + l) = σ (8 + l) ∧ σ' (24 + l) = σ (24 + l)) : cP x σ' := by
  intro k
  obtain ⟨V, v1, v2, v3⟩ := h k
  have e : eEnd σ σ' V := fun l hl => he l ((v1 l).mp hl).1
  refine ⟨V, sL_sg h0 h1 h4 he v1, ?_, ?_⟩
  · rw [h0]
    exact n_ok_sg e v2
  · rw [h0, sA_cg e]
    exact v3
theorem sW_sg (h : sW σ np) (h0 : ∀ i, bt (σ' 0) i = true → i < np) (h2 : σ' 2 = σ 2) (h3 : σ' 3 = σ 3) (h4 : σ' 4 = σ 4) (he : ∀ l, l < sm σ → σ' (8 + l) = σ (8 + l) ∧ σ' (24 + l) = σ (24 + l)) (hc : ∀ l, l < sm σ → ∃ c, 1 ≤ c ∧ c ≤ 99 ∧ σ' (40 + l) = nI c) : sW σ' np := by
  obtain ⟨w1, w2, w3, w4, w5, w6, w7, w8, w9⟩ := h
  unfold sW
  rw [sm_e h4, h2, h3, h4]
  refine ⟨w1, w2, w3, h0, w5, fun l hl => ⟨(w6 l hl).1, fun a b ha hb z => (w6 l hl).2 a b ha hb ((sE_cg (he l (w6 l hl).1)).mp z)⟩, fun l hl => ?_, fun l k a b hl hk ha hb z1 z2 => w8 l k a b hl hk ha hb ((sE_cg (he l hl)).mp z1) ((sE_cg (he k hk)).mp z2), hc⟩
  rw [(he l hl).1, (he l hl).2]
  exact w7 l hl
theorem has_e {l : Nat} (hl : l < 32) (s : Int32) : f_X10_has s (nI l) = f_X11_has s (nI l) := by rw [h10 hl, h11 hl]
theorem eEnd_rf (h : ∀ c, 8 ≤ c → c < 40 → σ' c = σ c) (hL : ∀ l, bt L l = true → l < 16) : eEnd σ σ' L := fun l hl => ⟨h _ (by omega) (by have := hL l hl; omega), h _ (by omega) (by have := hL l hl; omega)⟩
theorem l16 (h : sW σ np) (l : Nat) (hl : bt (σ 3) l = true) : l < 16 := by
  have := (h.2.2.2.2.2.1 l hl).1
  have := h.2.2.1
  omega
theorem st_join (h : IV np rt x y) : sam (f_X10_join p1 p2 x) (f_X11_join p1 p2 y) := by
  unfold f_X10_join f_X11_join
  have m16 := h.1.1.2.2.1
  rcases two_link h p1 with ⟨l, k1, rfl, k3, k4⟩ | ⟨k3, k4⟩
  · rw [k3, k4, if_neg (show ¬ (1 : Int32) = 0 by decide), Option.bind_some, if_neg (show ¬ (1 : Int32) = 0 by decide), h.1.2.2.2.2.1, has_e (by omega)]
    by_cases c : f_X11_has (y.1 289 1) (nI l) = p2
    · rw [if_pos c, if_pos c]
      exact ⟨_, x, y, rfl, rfl, np, rt, h⟩
    · rw [if_neg c, if_neg c]
      obtain ⟨x1, y1, e1, e2, i1, w1, w2⟩ := two_keep h
      rw [e1, e2, Option.bind_some, Option.bind_some, m_let, m_let, m_let]
      refine ⟨_, _, _, rfl, rfl, np, rt, ?_⟩
      have hW := i1.1.1
      obtain ⟨r0, r1, r2, r3, r4, r5, r6, r7, r8, r9, rl⟩ := i1.1.2
      have o : ∀ c, c ≠ 1 → (m_ys y1 289 1 (y1.1 289 1 ^^^ ((1 : Int32) <<< (nI l &&& 31)))).1 289 c = y1.1 289 c := fun c hc => ys_ec hc
      refine IV_st i1 (fun q c hq => ?_) (fun q c hq => ?_) rfl ⟨?_, ?_⟩ (fun z => ?_) ?_ ?_
      · unfold sX at hq
        by_cases e0 : q = 0
        · subst e0
          rw [xs_ec (by omega), xs_ne (by decide)]
        · rw [xs_ne e0, xs_ne (by omega)]
      · unfold sY at hq
        rw [ys_ne (by omega)]
      · exact sW_sg hW (by rw [o 0 (by decide)]; exact hW.2.2.2.1) (o 2 (by decide)) (o 3 (by decide)) (o 4 (by decide)) (fun l hl => ⟨o _ (by omega), o _ (by omega)⟩) (fun l hl => by rw [o _ (by omega)]; exact hW.2.2.2.2.2.2.2.2 l hl)
      · unfold sR
        rw [xs_ne (by decide), o 4 (by decide), o 0 (by decide), o 2 (by decide), o 3 (by decide), o 5 (by decide), o 6 (by decide), o 7 (by decide), xs_ec (by decide), xs_ec (by decide), xs_ec (by decide), xs_eq, xs_ec (by decide), xs_ec (by decide), xs_ec (by decide), xs_ec (by decide), xs_ec (by decide), xs_ec (by decide), ys_eq, r3, sm_e (o 4 (by decide))]
        refine ⟨r0, r1, r2, rfl, r4, r5, r6, r7, r8, r9, fun l hl => ?_⟩
        rw [xs_ne (by decide), xs_ne (by decide), xs_ne (by decide), xs_ne (by decide), xs_ne (by decide), xs_ne (by decide), xs_ne (by decide), xs_ne (by decide), o _ (by omega), o _ (by omega), o _ (by omega), o _ (by omega)]
        exact rl l hl
      · rw [xs_eq] at z
        exact absurd z (by decide)
      · refine cL_sg (σ := y1.1 289) (cL_mo (x := x1) ?_ (fun q q1 q2 => ?_) ?_ (fun q q1 q2 => ?_) i1.2.2.2.2.2.2.1) (o 2 (by decide)) (o 3 (by decide)) (eEnd_rf (fun c h1 h2 => o c (by omega)) (l16 hW))
        · rw [xs_ec (by decide), xs_ne (by decide)]
        · rw [xs_ne (by omega), xs_ne (by omega)]
        · rw [xs_ne (by decide), xs_ne (by decide)]
        · rw [xs_ne (by omega), xs_ne (by omega)]
      · exact kq_sg i1.2.2.2.2.2.2.2.1 (fun q q1 q2 => ys_ne (by omega)) (by rw [ys_ne (by decide)]) (o 2 (by decide)) (o 3 (by decide)) (eEnd_rf (fun c h1 h2 => o c (by omega)) (l16 hW))
  · rw [k3, k4, if_pos rfl, Option.bind_some, if_pos rfl]
    exact ⟨_, x, y, rfl, rfl, np, rt, h⟩
theorem two_post (h : IV np rt x y) (p : Int32) : (∃ k, k < np ∧ p = nI k ∧ f_X10_isPost p x = 1 ∧ f_X11_isPost p y = some 1) ∨ (f_X10_isPost p x = 0 ∧ f_X11_isPost p y = some 0) := by
  have n8 := h.1.1.1
  rcases isPost_x n8 x h.1.2.1 p with ⟨k, k1, k2, k3⟩ | ⟨k1, k3⟩
  · rcases isPost_y n8 y h.2.1.1 p with ⟨j, j1, j2, j3⟩ | ⟨j1, j3⟩
    · exact Or.inl ⟨k, k1, k2, k3, j3⟩
    · exact absurd k2 (j1 k k1)
  · rcases isPost_y n8 y h.2.1.1 p with ⟨j, j1, j2, j3⟩ | ⟨j1, j3⟩
    · exact absurd j2 (k1 j j1)
    · exact Or.inr ⟨k3, j3⟩
theorem isOn_e {l : Nat} (hl : l < 32) (y : mY) : f_X11_isOn (nI l) y = some (f_X11_has (y.1 289 0) (nI l)) := by rw [isOn_ok hl, h11 hl]
theorem st_power (h : IV np rt x y) : sam (f_X10_power p1 p2 x) (f_X11_power p1 p2 y) := by
  unfold f_X10_power f_X11_power
  have n8 := h.1.1.1
  rcases two_post h p1 with ⟨l, k1, rfl, k3, k4⟩ | ⟨k3, k4⟩
  · rw [k3, k4, if_neg (show ¬ (1 : Int32) = 0 by decide), Option.bind_some, if_neg (show ¬ (1 : Int32) = 0 by decide), h.1.2.2.2.1, has_e (by omega), isOn_e (by omega), Option.bind_some]
    by_cases c : f_X11_has (y.1 289 0) (nI l) = p2
    · rw [if_pos c, if_pos c]
      exact ⟨_, x, y, rfl, rfl, np, rt, h⟩
    · rw [if_neg c, if_neg c]
      obtain ⟨x1, y1, e1, e2, i1, w1, w2⟩ := two_keep h
      rw [e1, e2, Option.bind_some, Option.bind_some, m_let, m_let, m_let]
      refine ⟨_, _, _, rfl, rfl, np, rt, ?_⟩
      have hW := i1.1.1
      obtain ⟨r0, r1, r2, r3, r4, r5, r6, r7, r8, r9, rl⟩ := i1.1.2
      have o : ∀ c, c ≠ 0 → (m_ys y1 289 0 (y1.1 289 0 ^^^ ((1 : Int32) <<< (nI l &&& 31)))).1 289 c = y1.1 289 c := fun c hc => ys_ec hc
      refine IV_st i1 (fun q c hq => ?_) (fun q c hq => ?_) rfl ⟨?_, ?_⟩ (fun z => ?_) ?_ ?_
      · unfold sX at hq
        by_cases e0 : q = 0
        · subst e0
          rw [xs_ec (by omega), xs_ne (by decide)]
        · rw [xs_ne e0, xs_ne (by omega)]
      · unfold sY at hq
        rw [ys_ne (by omega)]
      · refine sW_sg hW (fun i hi => ?_) (o 2 (by decide)) (o 3 (by decide)) (o 4 (by decide)) (fun l hl => ⟨o _ (by omega), o _ (by omega)⟩) (fun l hl => by rw [o _ (by omega)]; exact hW.2.2.2.2.2.2.2.2 l hl)
        rw [ys_eq, b_xor, b_bit (by omega)] at hi
        by_cases e : i = l
        · rw [e]; exact k1
        · rw [decide_eq_false e, Bool.xor_false] at hi
          exact hW.2.2.2.1 i hi
      · unfold sR
        rw [xs_ne (by decide), o 4 (by decide), o 1 (by decide), o 2 (by decide), o 3 (by decide), o 5 (by decide), o 6 (by decide), o 7 (by decide), xs_ec (by decide), xs_ec (by decide), xs_eq, xs_ec (by decide), xs_ec (by decide), xs_ec (by decide), xs_ec (by decide), xs_ec (by decide), xs_ec (by decide), xs_ec (by decide), ys_eq, r2, sm_e (o 4 (by decide))]
        refine ⟨r0, r1, rfl, r3, r4, r5, r6, r7, r8, r9, fun l hl => ?_⟩
        rw [xs_ne (by decide), xs_ne (by decide), xs_ne (by decide), xs_ne (by decide), xs_ne (by decide), xs_ne (by decide), xs_ne (by decide), xs_ne (by decide), o _ (by omega), o _ (by omega), o _ (by omega), o _ (by omega)]
        exact rl l hl
      · rw [xs_eq] at z
        exact absurd z (by decide)
      · refine cL_sg (σ := y1.1 289) (cL_mo (x := x1) ?_ (fun q q1 q2 => ?_) ?_ (fun q q1 q2 => ?_) i1.2.2.2.2.2.2.1) (o 2 (by decide)) (o 3 (by decide)) (eEnd_rf (fun c h1 h2 => o c (by omega)) (l16 hW))
        · rw [xs_ec (by decide), xs_ne (by decide)]
        · rw [xs_ne (by omega), xs_ne (by omega)]
        · rw [xs_ne (by decide), xs_ne (by decide)]
        · rw [xs_ne (by omega), xs_ne (by omega)]
      · exact kq_sg i1.2.2.2.2.2.2.2.1 (fun q q1 q2 => ys_ne (by omega)) (by rw [ys_ne (by decide)]) (o 2 (by decide)) (o 3 (by decide)) (eEnd_rf (fun c h1 h2 => o c (by omega)) (l16 hW))
  · rw [k3, k4, if_pos rfl, Option.bind_some, if_pos rfl]
    exact ⟨_, x, y, rfl, rfl, np, rt, h⟩
theorem cost_c (p : Int32) : (∃ c, 1 ≤ c ∧ c ≤ 99 ∧ p = nI c ∧ f_X10_isCost p = 1 ∧ f_X11_in p 1 99 = 1) ∨ (f_X10_isCost p = 0 ∧ f_X11_in p 1 99 = 0) := by
  unfold f_X10_isCost f_X11_in
  by_cases c1 : p < 1
  · rw [if_pos c1]
    exact Or.inr ⟨rfl, rfl⟩
  · rw [if_neg c1]
    by_cases c2 : (99 : Int32) < p
    · rw [if_pos c2]
      exact Or.inr ⟨rfl, rfl⟩
    · rw [if_neg c2]
      left
      have n0 : ¬ p < 0 := fun z => c1 (Int32.lt_trans z (by decide))
      obtain ⟨j, j1, rfl⟩ := nI_of n0
      refine ⟨j, ?_, ?_, rfl, rfl, rfl⟩
      · exact Classical.byContradiction fun z => c1 (nI_lt (b := 1) (by omega) (by decide))
      · exact Classical.byContradiction fun z => c2 (nI_lt (a := 99) (by omega) j1)
theorem st_cost (h : IV np rt x y) : sam (f_X10_cost p1 p2 x) (f_X11_cost p1 p2 y) := by
  unfold f_X10_cost f_X11_cost
  have m16 := h.1.1.2.2.1
  rcases two_link h p1 with ⟨l, k1, rfl, k3, k4⟩ | ⟨k3, k4⟩
  · rw [k3, k4, if_neg (show ¬ (1 : Int32) = 0 by decide), Option.bind_some, if_neg (show ¬ (1 : Int32) = 0 by decide)]
    rcases cost_c p2 with ⟨v, v1, v2, rfl, v3, v4⟩ | ⟨v3, v4⟩
    · rw [v3, v4, if_neg (show ¬ (1 : Int32) = 0 by decide), if_neg (show ¬ (1 : Int32) = 0 by decide), a40, if_pos (in_ok (by omega) (by decide)), if_pos (in_ok (by omega) (by decide)), cl (by omega), cl (by omega), (h.1.2.2.2.2.2.2.2.2.2.2.2 l k1).2.2.1]
      by_cases c : y.1 289 (40 + l) = nI v
      · rw [if_pos c, if_pos c]
        exact ⟨_, x, y, rfl, rfl, np, rt, h⟩
      · rw [if_neg c, if_neg c]
        obtain ⟨x1, y1, e1, e2, i1, w1, w2⟩ := two_keep h
        have es : y1.1 289 = y.1 289 := yF_row w2 (fun c => by unfold mkW; omega)
        rw [e1, e2, Option.bind_some, Option.bind_some, if_pos (in_ok (by omega) (by decide)), m_let, m_let, if_pos (in_ok (by omega) (by decide))]
        refine ⟨_, _, _, rfl, rfl, np, rt, ?_⟩
        have hW := i1.1.1
        obtain ⟨r0, r1, r2, r3, r4, r5, r6, r7, r8, r9, rl⟩ := i1.1.2
        have o : ∀ c, c ≠ 40 + l → (m_ys y1 289 (40 + l) (nI v)).1 289 c = y1.1 289 c := fun c hc => ys_ec hc
        refine IV_st i1 (fun q c hq => ?_) (fun q c hq => ?_) rfl ⟨?_, ?_⟩ ?_ ?_ ?_
        · unfold sX at hq
          rw [xs_ne (by omega)]
        · unfold sY at hq
          rw [ys_ne (by omega)]
        · refine sW_sg hW (by rw [o 0 (by omega)]; exact hW.2.2.2.1) (o 2 (by omega)) (o 3 (by omega)) (o 4 (by omega)) (fun k hk => ⟨o _ (by rw [es] at hk; omega), o _ (by rw [es] at hk; omega)⟩) (fun k hk => ?_)
          by_cases e : k = l
          · subst e
            exact ⟨v, v1, v2, ys_eq _ _ _ _⟩
          · rw [o _ (by omega)]
            exact hW.2.2.2.2.2.2.2.2 k hk
        · unfold sR
          rw [xs_ne (by decide), o 4 (by omega), o 0 (by omega), o 1 (by omega), o 2 (by omega), o 3 (by omega), o 5 (by omega), o 6 (by omega), o 7 (by omega), sm_e (o 4 (by omega))]
          refine ⟨r0, r1, r2, r3, r4, r5, r6, r7, r8, r9, fun k hk => ?_⟩
          have k16 : k < 16 := by rw [es] at hk; omega
          refine ⟨?_, ?_, ?_, ?_⟩
          · rw [xs_ne (by decide), o (8 + k) (by omega)]
            exact (rl k hk).1
          · rw [xs_ne (by decide), o (24 + k) (by omega)]
            exact (rl k hk).2.1
          · show (m_xs x1 17 l (nI v)).1 17 k = _
            by_cases e : k = l
            · subst e
              rw [ys_eq, xs_eq]
            · rw [xs_ec e, o _ (by omega)]
              exact (rl k hk).2.2.1
          · rw [xs_ne (by decide), o (56 + k) (by omega)]
            exact (rl k hk).2.2.2
        · refine cP_sg (σ := y1.1 289) (cP_mo (x := x1) ?_ (fun q q1 q2 => ?_) ?_ ?_ ?_ i1.2.2.2.2.2.1) (o 0 (by omega)) (o 1 (by omega)) (o 4 (by omega)) (fun k hk => ⟨o _ (by rw [es] at hk; omega), o _ (by rw [es] at hk; omega)⟩)
          · rw [xs_ne (by decide)]
          · rw [xs_ne (by omega)]
          · rw [xs_ne (by decide)]
          · rw [xs_ne (by decide)]
          · rw [xs_ne (by decide)]
        · refine cL_sg (σ := y1.1 289) (cL_mo (x := x1) ?_ (fun q q1 q2 => ?_) ?_ (fun q q1 q2 => ?_) i1.2.2.2.2.2.2.1) (o 2 (by omega)) (o 3 (by omega)) (eEnd_rf (fun c h1 h2 => o c (by omega)) (l16 hW))
          · rw [xs_ne (by decide)]
          · rw [xs_ne (by omega)]
          · rw [xs_ne (by decide)]
          · rw [xs_ne (by omega)]
        · exact kq_sg i1.2.2.2.2.2.2.2.1 (fun q q1 q2 => ys_ne (by omega)) (by rw [ys_ne (by decide)]) (o 2 (by omega)) (o 3 (by omega)) (eEnd_rf (fun c h1 h2 => o c (by omega)) (l16 hW))
    · rw [v3, v4, if_pos rfl, if_pos rfl]
      exact ⟨_, x, y, rfl, rfl, np, rt, h⟩
  · rw [k3, k4, if_pos rfl, Option.bind_some, if_pos rfl]
    exact ⟨_, x, y, rfl, rfl, np, rt, h⟩
theorem map_p {α : Type} (r : Int32) (z : α) : (some r).map (fun r => (r, z)) = some (r, z) := rfl
theorem st_link (h : IV np rt x y) : sam ((f_X10_link p1 p2 x).map fun r => (r, x)) ((f_X11_link p1 p2 y).map fun r => (r, y)) := by
  have m16 := h.1.1.2.2.1
  have key : ∃ r, f_X10_link p1 p2 x = some r ∧ f_X11_link p1 p2 y = some r := by
    unfold f_X10_link f_X11_link
    rcases two_link h p1 with ⟨l, k1, rfl, k3, k4⟩ | ⟨k3, k4⟩
    · obtain ⟨r0, r1, r2, r3, r4, r5, r6, r7, r8, r9, rl⟩ := h.1.2
      obtain ⟨g1, g2, g3, g4⟩ := rl l k1
      have i16 : m_in (nI l) 16 = true := in_ok (by omega) (by decide)
      rw [k3, k4, if_neg (show ¬ (1 : Int32) = 0 by decide), Option.bind_some, if_neg (show ¬ (1 : Int32) = 0 by decide), a8, a24, a40, a56, if_pos i16, if_pos i16, if_pos i16, if_pos i16, if_pos (in_ok (show 8 + l < 72 by omega) (by decide)), if_pos (in_ok (show 24 + l < 72 by omega) (by decide)), if_pos (in_ok (show 40 + l < 72 by omega) (by decide)), if_pos (in_ok (show 56 + l < 72 by omega) (by decide)), cl (show l < 100000 by omega), cl (show 8 + l < 100000 by omega), cl (show 24 + l < 100000 by omega), cl (show 40 + l < 100000 by omega), cl (show 56 + l < 100000 by omega), r3, r6, has_e (by omega), has_e (by omega), show x.1 15 l = _ from g1, show x.1 16 l = _ from g2, show x.1 17 l = _ from g3, show x.1 18 l = _ from g4]
      by_cases c0 : p2 = 0
      · rw [if_pos c0]; exact ⟨_, rfl, rfl⟩
      rw [if_neg c0]
      by_cases c1 : p2 = 1
      · rw [if_pos c1]; exact ⟨_, rfl, rfl⟩
      rw [if_neg c1]
      by_cases c2 : p2 = 2
      · rw [if_pos c2]; exact ⟨_, rfl, rfl⟩
      rw [if_neg c2]
      by_cases c3 : p2 = 3
      · rw [if_pos c3]
        by_cases z : f_X11_has (y.1 289 1) (nI l) = 0
        · rw [if_pos z]; exact ⟨_, rfl, rfl⟩
        · rw [if_neg z]; exact ⟨_, rfl, rfl⟩
      rw [if_neg c3]
      by_cases c4 : p2 = 4
      · rw [if_pos c4]; exact ⟨_, rfl, rfl⟩
      rw [if_neg c4]
      by_cases c5 : p2 = 5
      · rw [if_pos c5]
        by_cases z : f_X11_has (y.1 289 3) (nI l) = 0
        · rw [if_pos z]; exact ⟨_, rfl, rfl⟩
        · rw [if_neg z]; exact ⟨_, rfl, rfl⟩
      rw [if_neg c5]
      exact ⟨_, rfl, rfl⟩
    · rw [k3, k4, if_pos rfl, Option.bind_some, if_pos rfl]
      exact ⟨_, rfl, rfl⟩
  obtain ⟨r, e1, e2⟩ := key
  rw [e1, e2]
  exact ⟨r, x, y, rfl, rfl, np, rt, h⟩
end ST
