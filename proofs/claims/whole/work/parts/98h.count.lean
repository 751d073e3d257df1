/-! ===== count ===== -/
section SP
variable {np rt s d : Nat} {x x' : mX} {y y0 : mY} {p1 p2 : Int32} {σ : Nat → Int32} {M : Int32}
theorem isTied_x {A : Nat → Nat → Prop} {P : Int32} (x : mX) (h8 : b8 P) (hN : g_N A (bS P)) (hP : x.1 222 0 = P) (hm : n_mat x.1 222 P A) : (td A (bS P) ∧ f_X3_isTied x = some 1) ∨ (¬ td A (bS P) ∧ f_X3_isTied x = some 0) := by
  unfold f_X3_isTied
  have hb := g_n_bound (P := bS P) 8
  rw [hP, bitCount_ok h8, Option.bind_some]
  by_cases c : g_n (bS P) 8 < 2
  · left
    exact ⟨Or.inl c, by rw [if_neg (show ¬ (2 : Int32) ≤ nI (g_n (bS P) 8) from nI_ge (b := 2) c (by decide))]⟩
  · rw [if_pos (show (2 : Int32) ≤ nI (g_n (bS P) 8) from nI_le (a := 2) (by omega) (by omega))]
    have z := lp_up 8 (fun n b (_ : Unit) => f_X3_isTied_L15 n b x) (fun j _ => ∀ p, p < j → bS P p → ∀ q, bS P q → g_M A (bS P) p q) (fun o => (td A (bS P) ∧ o = some 1) ∨ (¬ td A (bS P) ∧ o = some 0)) (by
      rintro n _ hI
      show (_ ∧ f_X3_isTied_L15 (n + 1) (nI 8) x = _) ∨ (_ ∧ f_X3_isTied_L15 (n + 1) (nI 8) x = _)
      left
      obtain ⟨a, b, _, _, a1, b1, hab⟩ := g_n_2.mp (show 2 ≤ g_n (bS P) 8 by omega)
      exact ⟨Or.inr ⟨⟨a, b, a1, b1, hab⟩, fun w a b ha hb haw hbw => (hI a (hN.2.2 a ha) ha b hb).2 w (Ne.symm haw) (Ne.symm hbw)⟩, by rw [f_X3_isTied_L15, if_pos (by decide)]⟩) (by
      rintro n j _ hj hI ih
      show (_ ∧ f_X3_isTied_L15 (n + 1) (nI j) x = _) ∨ (_ ∧ f_X3_isTied_L15 (n + 1) (nI j) x = _)
      rw [f_X3_isTied_L15, if_neg (k8f hj), nI_1, hP]
      by_cases c1 : bt P j = true
      · rw [if_neg (h10t (by omega) c1), if_pos (in_ok hj (by decide)), cl (by omega)]
        by_cases c2 : x.1 227 j = P
        · rw [if_pos c2]
          refine ih () (fun p hp hv q hq => ?_)
          by_cases e : p = j
          · subst e
            exact (hm p hj q).mp (by rw [show x.1 (222 + 5) p = P from c2]; exact hq)
          · exact hI p (by omega) hv q hq
        · right
          refine ⟨fun t => ?_, by rw [if_neg c2]⟩
          rcases t with t | t
          · exact c t
          · refine c2 (b_eq_iff fun i => (hm j hj i).trans ⟨fun k => (g_sy hN.1 k.1).1, fun k => ⟨g_T_conn t c1 k, fun w h1 h2 => t.2 w j i c1 k (Ne.symm h1) (Ne.symm h2)⟩⟩)
      · rw [if_pos (h10f (by omega) c1)]
        refine ih () (fun p hp hv q hq => ?_)
        by_cases e : p = j
        · subst e
          exact absurd hv c1
        · exact hI p (by omega) hv q hq) mF 0 () (by decide) (by decide) (fun p hp => by omega)
    exact z
/-- posts whose two ways share nothing -/
def cpp (σ : Nat → Int32) (np rt v : Nat) : Prop := rt < np ∧ v < np ∧ v ≠ rt ∧ g_C (sA σ (σ 3)) (bS (σ 2)) v rt ∧ ∀ w, ¬ bo (sA σ (σ 3)) (bS (σ 2)) rt v w
theorem clear_x (h : IV np rt x y) : ∃ r x1, f_X10_clearPosts x = some (r, x1) ∧ (∀ v, bt r v = true ↔ cpp (y.1 289) np rt v) ∧ IV np rt x1 y := by
  unfold f_X10_clearPosts
  have n8 := h.1.1.1
  have hN := sN_learnt h.1.1
  have z := lp_ok 8 (fun n b (s' : Int32 × mX) => f_X10_clearPosts_L4 n s'.1 b s'.2) (fun j s' => IV np rt s'.2 y ∧ ∀ v, bt s'.1 v = true ↔ v < j ∧ cpp (y.1 289) np rt v) (P := fun r => (∀ v, bt r.1 v = true ↔ cpp (y.1 289) np rt v) ∧ IV np rt r.2 y) (by
    rintro n ⟨a, x1⟩ ⟨h1, h2⟩
    show ∃ r, f_X10_clearPosts_L4 (n + 1) a (nI 8) x1 = some r ∧ _
    rw [f_X10_clearPosts_L4, if_pos (by decide)]
    exact ⟨_, rfl, fun v => (h2 v).trans ⟨fun k => k.2, fun k => ⟨Nat.lt_of_lt_of_le k.2.1 n8, k⟩⟩, h1⟩) (by
    rintro n j ⟨a, x1⟩ hj ⟨h1, h2⟩ ih
    dsimp only at h1 h2
    show ∃ r, f_X10_clearPosts_L4 (n + 1) a (nI j) x1 = some r ∧ _
    rw [f_X10_clearPosts_L4, if_neg (k8f hj), nI_1, h1.1.2.2.2.2.2.1]
    have skip : ∀ x2, IV np rt x2 y → ¬ cpp (y.1 289) np rt j → ∃ r, f_X10_clearPosts_L4 n a (nI (j + 1)) x2 = some r ∧ (∀ v, bt r.1 v = true ↔ cpp (y.1 289) np rt v) ∧ IV np rt r.2 y := fun x2 hx hn => ih (a, x2) ⟨hx, fun v => (h2 v).trans ⟨fun k => ⟨by omega, k.2⟩, fun k => ⟨by
      have : v ≠ j := fun e => hn (e ▸ k.2)
      omega, k.2⟩⟩⟩
    obtain ⟨r, x2, e1, i1, ⟨a', v', k, rfl, z8, ct⟩ | ⟨no, rfl⟩⟩ := hasWay_ok h1 (nI rt) (nI j)
    · have i14 := i1.1.2.2.2.2.2.1
      obtain ⟨ka, kv, k1, k2, k3, k4⟩ := k
      have ej : j = v' := (nI_eq (by omega) (by omega)).mp k2
      subst ej
      rw [e1, Option.bind_some]
      dsimp only
      rw [if_neg (show ¬ (1 : Int32) = 0 by decide), i14, k1]
      obtain ⟨res, g1, g2⟩ := shared_ok hN (show a' < 8 by omega) x2 ct k4
      rw [g1, Option.bind_some]
      have hr : rt < np := by
        rcases h.2.1.2 with ⟨z, _⟩ | ⟨z, _⟩
        · omega
        · exact z
      have er : rt = a' := (nI_eq (by omega) (by omega)).mp k1
      subst er
      by_cases c : res = 0
      · rw [if_pos c]
        refine ih (_, x2) ⟨i1, fun v => ?_⟩
        show bt (a ||| _) v = true ↔ _
        rw [b_or, b_bit (by omega), Bool.or_eq_true, decide_eq_true_eq, h2 v]
        constructor
        · rintro (k | rfl)
          · exact ⟨by omega, k.2⟩
          · exact ⟨by omega, hr, kv, k3, k4, fun w hw => by
              have := (g2 w).mpr hw
              rw [c, b_0] at this
              cases this⟩
        · intro k
          by_cases e : v = j
          · exact Or.inr e
          · exact Or.inl ⟨by omega, k.2⟩
      · rw [if_neg c]
        obtain ⟨w, hw⟩ := b_ex c
        exact skip x2 i1 (fun k => k.2.2.2.2 w ((g2 w).mp hw))
    · rw [e1, Option.bind_some]
      dsimp only
      rw [if_pos (show (0 : Int32) = 0 from rfl)]
      exact skip x2 i1 (fun k => no rt j ⟨k.1, k.2.1, rfl, rfl, k.2.2.1, k.2.2.2.1⟩)) mF 0 (0, x) (by decide) (by decide) ⟨h, fun v => by
        show bt (0 : Int32) v = true ↔ _
        rw [b_0]
        exact ⟨fun z => (by cases z), fun z => absurd z.1 (by omega)⟩⟩
  obtain ⟨r, e, k1, k2⟩ := z
  exact ⟨r.1, r.2, e, k1, k2⟩
theorem on2 {a v : Nat} (y : mY) (hW : sW (y.1 289) np) (ko : k_ok y.1) (ha : a < 8) (h1 : g_C (sA (y.1 289) (y.1 289 3)) (bS (y.1 289 2)) v a) (h2 : v ≠ a) : ∃ q2 q3, f_X11_onWay (nI a) (nI v) 0 y = some q2 ∧ f_X11_onWay (nI a) (nI v) 1 y = some q3 ∧ ∀ w, bt (q2 &&& q3) w = true ↔ bo (sA (y.1 289) (y.1 289 3)) (bS (y.1 289 2)) a v w := by
  obtain ⟨q2, f1, f2⟩ := onWay_ok (c := 0) y hW ko ha (by decide) h1 h2
  obtain ⟨q3, f3, f4⟩ := onWay_ok (c := 1) y hW ko ha (by decide) h1 h2
  rw [nI_0] at f1
  rw [show nI 1 = (1 : Int32) by decide] at f3
  refine ⟨q2, q3, f1, f3, fun i => ?_⟩
  rw [b_and, Bool.and_eq_true, f2 i, f4 i]
  unfold bo
  constructor
  · rintro ⟨⟨k1, k2⟩, k3, k4⟩
    refine ⟨k1, fun c hc => ?_⟩
    have t : c = 0 ∨ c = 1 := by omega
    rcases t with rfl | rfl
    · exact k2
    · exact k4
  · rintro ⟨k1, k2⟩
    exact ⟨⟨k1, k2 0 (by decide)⟩, k1, k2 1 (by decide)⟩
theorem apart_y (hW : sW (y0.1 289) np) (hr : iR np rt y0) (hk : kq y0) : ∃ r y1, f_X11_apartFromRoot y0 = some (r, y1) ∧ (∀ v, bt r v = true ↔ cpp (y0.1 289) np rt v) ∧ yF kn_W y0 y1 ∧ kq y1 := by
  unfold f_X11_apartFromRoot
  have n8 := hW.1
  have z := lp_ok np (fun n b (s' : Int32 × mY) => f_X11_apartFromRoot_L4 n s'.1 b s'.2) (fun j s' => (yF kn_W y0 s'.2 ∧ kq s'.2) ∧ ∀ v, bt s'.1 v = true ↔ v < j ∧ cpp (y0.1 289) np rt v) (P := fun r => (∀ v, bt r.1 v = true ↔ cpp (y0.1 289) np rt v) ∧ yF kn_W y0 r.2 ∧ kq r.2) (by
    rintro n ⟨a, y1⟩ ⟨h1, h2⟩
    dsimp only at h1 h2
    show ∃ r, f_X11_apartFromRoot_L4 (n + 1) a (nI np) y1 = some r ∧ _
    have e17 : y1.1 279 17 = nI np := by rw [h1.1.1 279 17 (by unfold kn_W; omega)]; exact hr.1
    rw [f_X11_apartFromRoot_L4, if_pos (show y1.1 279 17 ≤ nI np by rw [e17]; exact nI_le (Nat.le_refl _) (by omega))]
    exact ⟨_, rfl, fun v => (h2 v).trans ⟨fun k => k.2, fun k => ⟨k.2.1, k⟩⟩, h1⟩) (by
    rintro n j ⟨a, y1⟩ hj ⟨h1, h2⟩ ih
    dsimp only at h1 h2
    show ∃ r, f_X11_apartFromRoot_L4 (n + 1) a (nI j) y1 = some r ∧ _
    have es : y1.1 289 = y0.1 289 := yF_row h1.1 (fun c => by unfold kn_W; omega)
    have e17 : y1.1 279 17 = nI np := by rw [h1.1.1 279 17 (by unfold kn_W; omega)]; exact hr.1
    have hrt : rt < np ∧ y1.1 279 18 = nI rt := by
      rw [h1.1.1 279 18 (by unfold kn_W; omega)]
      rcases hr.2 with ⟨z, _⟩ | z
      · omega
      · exact z
    rw [f_X11_apartFromRoot_L4, if_neg (show ¬ y1.1 279 17 ≤ nI j by rw [e17]; exact nI_ge hj (by omega)), nI_1, hrt.2]
    have skip : ∀ y2, (yF kn_W y0 y2 ∧ kq y2) → ¬ cpp (y0.1 289) np rt j → ∃ r, f_X11_apartFromRoot_L4 n a (nI (j + 1)) y2 = some r ∧ (∀ v, bt r.1 v = true ↔ cpp (y0.1 289) np rt v) ∧ yF kn_W y0 r.2 ∧ kq r.2 := fun y2 hx hn => ih (a, y2) ⟨hx, fun v => (h2 v).trans ⟨fun k => ⟨by omega, k.2⟩, fun k => ⟨by
      have : v ≠ j := fun e => hn (e ▸ k.2)
      omega, k.2⟩⟩⟩
    obtain ⟨y2, w2, kq2, ⟨a', v', k, e2, ko⟩ | ⟨no, e2⟩⟩ := placeOf_ok y1 (by rw [es]; exact hW) e17 h1.2 (nI rt) (nI j)
    · have es2 : y2.1 289 = y0.1 289 := (yF_row w2 (fun c => by unfold kn_W; omega)).trans es
      have h3 : yF kn_W y0 y2 ∧ kq y2 := ⟨yF_tr h1.1 w2, kq2⟩
      obtain ⟨ka, kv, k1, k2, k3, k4⟩ := k
      rw [es] at k4
      have ej : j = v' := (nI_eq (by omega) (by omega)).mp k2
      have er : rt = a' := (nI_eq (by omega) (by omega)).mp k1
      subst ej
      subst er
      rw [e2, Option.bind_some]
      dsimp only
      have e18 : y2.1 279 18 = nI rt := by rw [w2.1 279 18 (by unfold kn_W; omega)]; exact hrt.2
      obtain ⟨q2, q3, g1, g2, g3⟩ := on2 y2 (by rw [es2]; exact hW) ko (show rt < 8 by omega) (by rw [es2]; exact k4) k3
      rw [if_neg (nI_pos (by omega)), e18, g1, Option.bind_some, g2, Option.bind_some]
      rw [es2] at g3
      by_cases c : q2 &&& q3 = 0
      · rw [if_pos c]
        refine ih (_, y2) ⟨h3, fun v => ?_⟩
        show bt (a ||| _) v = true ↔ _
        rw [b_or, b_bit (by omega), Bool.or_eq_true, decide_eq_true_eq, h2 v]
        constructor
        · rintro (k | rfl)
          · exact ⟨by omega, k.2⟩
          · exact ⟨by omega, ka, kv, k3, k4, fun w hw => by
              have := (g3 w).mpr hw
              rw [c, b_0] at this
              cases this⟩
        · intro k
          by_cases e : v = j
          · exact Or.inr e
          · exact Or.inl ⟨by omega, k.2⟩
      · rw [if_neg c]
        obtain ⟨w, hw⟩ := b_ex c
        exact skip y2 h3 (fun k => k.2.2.2.2 w ((g3 w).mp hw))
    · rw [e2, Option.bind_some]
      dsimp only
      rw [if_pos (show (-1 : Int32) < 0 by decide)]
      exact skip y2 ⟨yF_tr h1.1 w2, kq2⟩ (fun k => no rt j ⟨k.1, k.2.1, rfl, rfl, k.2.2.1, by rw [es]; exact k.2.2.2.1⟩)) mF 0 (0, y0) (Nat.lt_of_lt_of_le (show np < mF from Nat.lt_of_le_of_lt n8 (by decide)) (Nat.le_add_left _ _)) (Nat.zero_le _) ⟨⟨yF_rf _ _, hk⟩, fun v => by
        show bt (0 : Int32) v = true ↔ _
        rw [b_0]
        exact ⟨fun z => (by cases z), fun z => absurd z.1 (by omega)⟩⟩
  obtain ⟨r, e, k1, k2, k3⟩ := z
  exact ⟨r.1, r.2, e, k1, k2, k3⟩
theorem held_n (h : IV np rt x y) : f_J6_bitCount_0f7a4 (x.1 0 4) = some (((if y.1 292 0 = 0 then (0 : Int32) else 1) + (if y.1 292 1 = 0 then (0 : Int32) else 1)) + (if y.1 292 2 = 0 then (0 : Int32) else 1)) := by
  have hs := h.2.2.2.1
  have c8 : b8 (x.1 0 4) := fun i hi => by have := hs.1 i hi; omega
  have e3 : g_n (bS (x.1 0 4)) 8 = g_n (bS (x.1 0 4)) 3 := g_n_flat (by omega) (fun c h1 h2 z => by have := hs.1 c z; omega)
  have one : ∀ s, s < 3 → g_n (bS (x.1 0 4)) (s + 1) = g_n (bS (x.1 0 4)) s + (if y.1 292 s = 0 then 0 else 1) := fun s hs3 => by
    rcases hs.2 s hs3 with ⟨k1, k2, _⟩ | ⟨k1, k2⟩
    · rw [g_n_step (P := bS (x.1 0 4)) s k1, k2, if_neg (by decide)]
    · rw [g_n_stay (P := bS (x.1 0 4)) s k1, k2, if_pos rfl, Nat.add_zero]
  have e : g_n (bS (x.1 0 4)) 3 = ((if y.1 292 0 = 0 then 0 else 1) + (if y.1 292 1 = 0 then 0 else 1)) + (if y.1 292 2 = 0 then 0 else 1) := by
    rw [one 2 (by decide), one 1 (by decide), one 0 (by decide)]
    show 0 + _ + _ + _ = _
    rw [Nat.zero_add]
  rw [bitCount_ok c8, e3, e]
  by_cases a : y.1 292 0 = 0
  · by_cases b : y.1 292 1 = 0
    · by_cases c : y.1 292 2 = 0
      · rw [if_pos a, if_pos b, if_pos c, if_pos a, if_pos b, if_pos c]; rfl
      · rw [if_pos a, if_pos b, if_neg c, if_pos a, if_pos b, if_neg c]; rfl
    · by_cases c : y.1 292 2 = 0
      · rw [if_pos a, if_neg b, if_pos c, if_pos a, if_neg b, if_pos c]; rfl
      · rw [if_pos a, if_neg b, if_neg c, if_pos a, if_neg b, if_neg c]; rfl
  · by_cases b : y.1 292 1 = 0
    · by_cases c : y.1 292 2 = 0
      · rw [if_neg a, if_pos b, if_pos c, if_neg a, if_pos b, if_pos c]; rfl
      · rw [if_neg a, if_pos b, if_neg c, if_neg a, if_pos b, if_neg c]; rfl
    · by_cases c : y.1 292 2 = 0
      · rw [if_neg a, if_neg b, if_pos c, if_neg a, if_neg b, if_pos c]; rfl
      · rw [if_neg a, if_neg b, if_neg c, if_neg a, if_neg b, if_neg c]; rfl
theorem st_count (h : IV np rt x y) : sam (f_X10_count p1 x) (f_X11_count p1 y) := by
  unfold f_X10_count f_X11_count
  have hW := h.1.1
  have n8 := hW.1
  have m16 := hW.2.2.1
  obtain ⟨r0, r1, r2, r3, r4, r5, r6, r7, r8, r9, rl⟩ := h.1.2
  by_cases c0 : p1 = 0
  · rw [if_pos c0, if_pos c0]
    exact ⟨_, x, y, rfl, by rw [r0, h.2.1.1], np, rt, h⟩
  rw [if_neg c0, if_neg c0]
  by_cases c1 : p1 = 1
  · rw [if_pos c1, if_pos c1]
    exact ⟨_, x, y, by rw [r1], rfl, np, rt, h⟩
  rw [if_neg c1, if_neg c1]
  by_cases c2 : p1 = 2
  · rw [if_pos c2, if_pos c2]
    exact ⟨_, x, y, by rw [r2], rfl, np, rt, h⟩
  rw [if_neg c2, if_neg c2]
  by_cases c3 : p1 = 3
  · rw [if_pos c3, if_pos c3]
    obtain ⟨V, v1, v2⟩ := live_ok x h.1.2 hW
    obtain ⟨V', v3, v4⟩ := netLinks_ok y hW
    rw [v1, v3, Option.bind_some, Option.bind_some, sL_un v4 v2]
    exact ⟨_, x, y, rfl, rfl, np, rt, h⟩
  rw [if_neg c3, if_neg c3]
  by_cases c4 : p1 = 4
  · rw [if_pos c4, if_pos c4]
    exact ⟨_, x, y, by rw [r6], rfl, np, rt, h⟩
  rw [if_neg c4, if_neg c4]
  by_cases c5 : p1 = 5
  · rw [if_pos c5, if_pos c5]
    exact ⟨_, x, y, by rw [r5], rfl, np, rt, h⟩
  rw [if_neg c5, if_neg c5]
  by_cases c6 : p1 = 6
  · rw [if_pos c6, if_pos c6]
    rcases h.2.1.2 with ⟨z1, z2⟩ | ⟨z1, z2⟩
    · rw [r0, z1, if_pos nI_0, z2]
      exact ⟨_, x, y, rfl, rfl, np, rt, h⟩
    · rw [r0, if_neg (nI_ne0 (by omega) (by omega)), r4, z2]
      exact ⟨_, x, y, rfl, rfl, np, rt, h⟩
  rw [if_neg c6, if_neg c6]
  by_cases c7 : p1 = 7
  · rw [if_pos c7, if_pos c7]
    exact ⟨_, x, y, by rw [r7], rfl, np, rt, h⟩
  rw [if_neg c7, if_neg c7]
  by_cases c8 : p1 = 8
  · rw [if_pos c8, if_pos c8]
    obtain ⟨b, b1, b2, b3, _⟩ := h.2.2.2.2.1
    exact ⟨_, x, y, rfl, by rw [b2, b3], np, rt, h⟩
  rw [if_neg c8, if_neg c8]
  by_cases c9 : p1 = 9
  · rw [if_pos c9, if_pos c9]
    obtain ⟨k, t, e, k1, k2, k3, k4, k5, k6, _⟩ := h.2.2.1
    exact ⟨_, x, y, rfl, by rw [k4, k6], np, rt, h⟩
  rw [if_neg c9, if_neg c9]
  by_cases c10 : p1 = 10
  · rw [if_pos c10, if_pos c10]
    rw [held_n h, Option.bind_some]
    refine ⟨_, x, y, rfl, ?_, np, rt, h⟩
    rw [m_jn]
    dsimp only
    by_cases a : y.1 292 0 = 0
    · rw [if_pos a, if_pos a, m_jn]
      dsimp only
      by_cases b : y.1 292 1 = 0
      · rw [if_pos b, if_pos b]
        by_cases c : y.1 292 2 = 0
        · rw [if_pos c, if_pos c]
        · rw [if_neg c, if_neg c]
      · rw [if_neg b, if_neg b]
        by_cases c : y.1 292 2 = 0
        · rw [if_pos c, if_pos c]
        · rw [if_neg c, if_neg c]
    · rw [if_neg a, if_neg a, m_jn]
      dsimp only
      by_cases b : y.1 292 1 = 0
      · rw [if_pos b, if_pos b]
        by_cases c : y.1 292 2 = 0
        · rw [if_pos c, if_pos c]
        · rw [if_neg c, if_neg c]
      · rw [if_neg b, if_neg b]
        by_cases c : y.1 292 2 = 0
        · rw [if_pos c, if_pos c]
        · rw [if_neg c, if_neg c]
  rw [if_neg c10, if_neg c10]
  by_cases c11 : p1 = 11
  · rw [if_pos c11, if_pos c11]
    exact ⟨_, x, y, by rw [r8], rfl, np, rt, h⟩
  rw [if_neg c11, if_neg c11]
  by_cases c12 : p1 = 12
  · rw [if_pos c12, if_pos c12]
    obtain ⟨x1, e1, i1, z1⟩ := presentNet_ok h
    obtain ⟨V, v1, v2, _⟩ := i1.2.2.2.2.2.1 z1
    have hN := sL_N hW v1
    obtain ⟨V', v3, v4⟩ := netLinks_ok y hW
    obtain ⟨y1, g1, g2, g3⟩ := lays_ok (w := 2) (by decide) (L := V') y hW (fun l hl => ((v4 l).mp hl).1)
    rw [sL_un v4 v1] at g1 g3 v3
    have es : y1.1 289 = y.1 289 := g2.1 289 (by decide)
    have eA := nA_sA (f := fun p => y1.1 293 (8 * 2 + p)) g3
    rw [e1, Option.bind_some]
    dsimp only
    rw [if_pos rfl, v3, Option.bind_some, show (2 : Int32) = nI 2 from rfl, g1, Option.bind_some]
    have i2 : IV np rt x1 y1 := IV_yF i1 (yF_R g2) (fun q c z => by unfold scY; omega)
    rcases isTied_x x1 hN.2.2.2 hN.2.1 v2.1 v2.2.2.2.2.1 with ⟨k1, k2⟩ | ⟨k1, k2⟩
    · rcases isTied_ok y1 (by rw [es]; exact hN.2.2.2) hN.2.1.1 eA with ⟨j1, j2⟩ | ⟨j1, j2⟩
      · rw [k2, j2, Option.bind_some, Option.bind_some]
        exact ⟨_, x1, y1, rfl, rfl, np, rt, i2⟩
      · rw [es] at j1
        exact absurd k1 j1
    · rcases isTied_ok y1 (by rw [es]; exact hN.2.2.2) hN.2.1.1 eA with ⟨j1, j2⟩ | ⟨j1, j2⟩
      · rw [es] at j1
        exact absurd j1 k1
      · rw [k2, j2, Option.bind_some, Option.bind_some]
        exact ⟨_, x1, y1, rfl, rfl, np, rt, i2⟩
  rw [if_neg c12, if_neg c12]
  by_cases c13 : p1 = 13
  · rw [if_pos c13, if_pos c13]
    obtain ⟨x1, y1, e1, e2, i1, es, l1, l2⟩ := two_loads h
    rw [e1, Option.bind_some, e2, Option.bind_some, count_L223 y1 (by rw [es]; exact hW), es]
    refine ⟨_, x1, y1, rfl, ?_, np, rt, i1⟩
    have t := mxl_far (x1.1 253) (j := sm (y.1 289)) (16 - sm (y.1 289)) (fun i h1 h2 => l2 i h1 (by omega))
    rw [show sm (y.1 289) + (16 - sm (y.1 289)) = 16 by omega] at t
    dsimp only
    rw [t, mxl_cg (sm (y.1 289)) (fun i hi => l1 i (by omega))]
  rw [if_neg c13, if_neg c13]
  by_cases c14 : p1 = 14
  · rw [if_pos c14, if_pos c14]
    obtain ⟨r, x1, e1, f1, i1⟩ := clear_x h
    obtain ⟨r', y1, e2, f2, w2, k2⟩ := apart_y hW h.2.1 h.2.2.2.2.2.2.2.1
    rw [e1, Option.bind_some, e2, Option.bind_some, bt_same f2 f1]
    exact ⟨_, x1, y1, rfl, rfl, np, rt, IV_yk i1 w2 knk k2⟩
  rw [if_neg c14, if_neg c14]
  by_cases c15 : p1 = 15
  · rw [if_pos c15, if_pos c15]
    exact ⟨_, x, y, by rw [r9], rfl, np, rt, h⟩
  rw [if_neg c15, if_neg c15]
  exact ⟨_, x, y, rfl, rfl, np, rt, h⟩
end SP
