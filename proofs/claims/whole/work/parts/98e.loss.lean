/-! ===== loss ===== -/
section SM
variable {np rt s d : Nat} {x x' : mX} {y y0 : mY} {p1 p2 p3 : Int32} {σ : Nat → Int32} {P L M dn : Int32}
def wo1 (M : Int32) (l : Nat) : Int32 := M &&& (((1 : Int32) <<< (nI l &&& 31)) ^^^ (-1 : Int32))
/-- the links whose loss loses it -/
def lsb (σ : Nat → Int32) (M : Int32) (s d l : Nat) : Prop := bt M l = true ∧ ∃ R, tr σ (σ 2) (σ 3) (wo1 M l) d 20 0 s [] (-2) R ∧ R.1 ≠ d
theorem lv_1 (h : sL σ M) {l : Nat} (hl : l < 16) : lv_M σ ((1 : Int32) <<< (nI l &&& 31)) (wo1 M l) := fun i => by
  unfold wo1
  rw [b_wo (by omega), Bool.and_eq_true, h i, b_bit (by omega)]
  simp
theorem comes_x (h : IV np rt x y) (z8 : x.1 0 8 = 0) (hs : s < 8) (hd : d < 8) (ct : ct_r x.1 (y.1 289) (y.1 289 2) (y.1 289 3) d) : ∃ R w x1, f_X10_comes (nI s) (nI d) M x = some (w, x1) ∧ tr (y.1 289) (y.1 289 2) (y.1 289 3) M d 20 0 s [] (-2) R ∧ ((R.1 = d ∧ w = 1) ∨ (R.1 ≠ d ∧ w = 0)) ∧ IV np rt x1 y ∧ x1.1 0 8 = 0 ∧ ct_r x1.1 (y.1 289) (y.1 289 2) (y.1 289 3) d := by
  obtain ⟨R, x1, e1, t1, w1, q1, k1⟩ := run_ok (M := M) (sN_learnt h.1.1) hd hs x ct
  unfold f_X10_comes
  rw [e1, Option.bind_some, if_pos (nr_01 (k1.elim (fun z => Or.inr z.2) (fun z => Or.inl z.2)))]
  exact ⟨R, _, x1, rfl, t1, k1, IV_xF h w1 (fun q c z => by unfold tp_W at z; unfold scX; omega), by rw [w1.1 0 8 (by unfold tp_W; omega)]; exact z8, ct_r_251 w1 ct⟩
theorem loss_x (h : IV np rt x y) (z8 : x.1 0 8 = 0) (hs : s < 8) (hd : d < 8) (ct : ct_r x.1 (y.1 289) (y.1 289 2) (y.1 289 3) d) (hM : ∀ l, bt M l = true → l < 16) : ∃ r x1, f_X10_loss_L25 (nI s) (nI d) M mF 0 0 x = some (r, x1) ∧ (∀ l, bt r l = true ↔ lsb (y.1 289) M s d l) ∧ IV np rt x1 y := by
  have hN := sN_learnt h.1.1
  have z := lp_ok 16 (fun n b (s' : Int32 × mX) => f_X10_loss_L25 (nI s) (nI d) M n s'.1 b s'.2) (fun j s' => (IV np rt s'.2 y ∧ s'.2.1 0 8 = 0 ∧ ct_r s'.2.1 (y.1 289) (y.1 289 2) (y.1 289 3) d) ∧ ∀ l, bt s'.1 l = true ↔ l < j ∧ lsb (y.1 289) M s d l) (P := fun r => (∀ l, bt r.1 l = true ↔ lsb (y.1 289) M s d l) ∧ IV np rt r.2 y) (by
    rintro n ⟨a, x1⟩ ⟨h1, h2⟩
    show ∃ r, f_X10_loss_L25 (nI s) (nI d) M (n + 1) a (nI 16) x1 = some r ∧ _
    rw [f_X10_loss_L25, if_pos (by decide)]
    exact ⟨_, rfl, fun l => (h2 l).trans ⟨fun z => z.2, fun z => ⟨hM l z.1, z⟩⟩, h1.1⟩) (by
    rintro n j ⟨a, x1⟩ hj ⟨h1, h2⟩ ih
    show ∃ r, f_X10_loss_L25 (nI s) (nI d) M (n + 1) a (nI j) x1 = some r ∧ _
    dsimp only at h1 h2
    rw [f_X10_loss_L25, if_neg (k16f hj), nI_1]
    have skip : ∀ x2, (IV np rt x2 y ∧ x2.1 0 8 = 0 ∧ ct_r x2.1 (y.1 289) (y.1 289 2) (y.1 289 3) d) → ¬ lsb (y.1 289) M s d j → ∃ r, f_X10_loss_L25 (nI s) (nI d) M n a (nI (j + 1)) x2 = some r ∧ (∀ l, bt r.1 l = true ↔ lsb (y.1 289) M s d l) ∧ IV np rt r.2 y := fun x2 hx hn => ih (a, x2) ⟨hx, fun l => (h2 l).trans ⟨fun z => ⟨by omega, z.2⟩, fun z => ⟨by
      have : l ≠ j := fun e => hn (e ▸ z.2)
      omega, z.2⟩⟩⟩
    by_cases c : bt M j = true
    · rw [if_neg (h10t (by omega) c)]
      obtain ⟨R, w, x2, e1, t1, k1, g1, g2, g3⟩ := comes_x (M := wo1 M j) h1.1 h1.2.1 hs hd h1.2.2
      have e1' : f_X10_comes (nI s) (nI d) (M &&& (((1 : Int32) <<< (nI j &&& 31)) ^^^ (-1 : Int32))) x1 = some (w, x2) := e1
      rw [e1', Option.bind_some]
      rcases k1 with ⟨k1, rfl⟩ | ⟨k1, rfl⟩
      · dsimp only
        rw [if_neg (show ¬ (1 : Int32) = 0 by decide)]
        refine skip x2 ⟨g1, g2, g3⟩ (fun ⟨_, R', t2, k2⟩ => ?_)
        rw [tr_un hN _ _ _ _ _ _ _ t2 t1] at k2
        exact k2 k1
      · dsimp only
        rw [if_pos (show (0 : Int32) = 0 from rfl)]
        refine ih (_, x2) ⟨⟨g1, g2, g3⟩, fun l => ?_⟩
        show bt (a ||| _) l = true ↔ _
        rw [b_or, b_bit (by omega), Bool.or_eq_true, decide_eq_true_eq, h2 l]
        constructor
        · rintro (z | rfl)
          · exact ⟨by omega, z.2⟩
          · exact ⟨by omega, c, R, t1, k1⟩
        · intro z
          by_cases e : l = j
          · exact Or.inr e
          · exact Or.inl ⟨by omega, z.2⟩
    · rw [if_pos (h10f (by omega) c)]
      exact skip x1 h1 (fun z => c z.1)) mF 0 (0, x) (by decide) (by decide) ⟨⟨h, z8, ct⟩, fun l => by
        show bt (0 : Int32) l = true ↔ _
        rw [b_0]
        exact ⟨fun z => (by cases z), fun z => absurd z.1 (by omega)⟩⟩
  obtain ⟨r, e, k1, k2⟩ := z
  exact ⟨r.1, r.2, e, k1, k2⟩
theorem loss_y (y0 : mY) (hW : sW (y0.1 289) np) (hk : kq y0) (hs : s < 8) (hd : d < 8) (hon : bt (y0.1 289 0) s = true) (hM : sL (y0.1 289) M) : ∃ r y1, f_X11_loss_L22 (nI s) (nI d) M mF 0 0 y0 = some (r, y1) ∧ (∀ l, bt r l = true ↔ lsb (y0.1 289) M s d l) ∧ yF go_W y0 y1 ∧ kq y1 := by
  have hN := sN_learnt hW
  have m16 := hW.2.2.1
  have e4 := hW.2.1
  have hb : ∀ l, bt M l = true → l < sm (y0.1 289) := fun l hl => ((hM l).mp hl).1
  have z := lp_ok (sm (y0.1 289)) (fun n b (s' : Int32 × mY) => f_X11_loss_L22 (nI s) (nI d) M n s'.1 b s'.2) (fun j s' => (yF go_W y0 s'.2 ∧ kq s'.2) ∧ ∀ l, bt s'.1 l = true ↔ l < j ∧ lsb (y0.1 289) M s d l) (P := fun r => (∀ l, bt r.1 l = true ↔ lsb (y0.1 289) M s d l) ∧ yF go_W y0 r.2 ∧ kq r.2) (by
    rintro n ⟨a, y1⟩ ⟨h1, h2⟩
    show ∃ r, f_X11_loss_L22 (nI s) (nI d) M (n + 1) a (nI (sm (y0.1 289))) y1 = some r ∧ _
    have es : y1.1 289 = y0.1 289 := yF_row h1.1 (fun c => by unfold go_W kn_W gw_W; omega)
    rw [f_X11_loss_L22, if_pos (show y1.1 289 4 ≤ nI (sm (y0.1 289)) by rw [es, e4]; exact nI_le (Nat.le_refl _) (by omega))]
    exact ⟨_, rfl, fun l => (h2 l).trans ⟨fun z => z.2, fun z => ⟨hb l z.1, z⟩⟩, h1⟩) (by
    rintro n j ⟨a, y1⟩ hj ⟨h1, h2⟩ ih
    show ∃ r, f_X11_loss_L22 (nI s) (nI d) M (n + 1) a (nI j) y1 = some r ∧ _
    dsimp only at h1 h2
    have es : y1.1 289 = y0.1 289 := yF_row h1.1 (fun c => by unfold go_W kn_W gw_W; omega)
    rw [f_X11_loss_L22, if_neg (show ¬ y1.1 289 4 ≤ nI j by rw [es, e4]; exact nI_ge hj (by omega)), nI_1]
    have skip : ∀ y2, (yF go_W y0 y2 ∧ kq y2) → ¬ lsb (y0.1 289) M s d j → ∃ r, f_X11_loss_L22 (nI s) (nI d) M n a (nI (j + 1)) y2 = some r ∧ (∀ l, bt r.1 l = true ↔ lsb (y0.1 289) M s d l) ∧ yF go_W y0 r.2 ∧ kq r.2 := fun y2 hx hn => ih (a, y2) ⟨hx, fun l => (h2 l).trans ⟨fun z => ⟨by omega, z.2⟩, fun z => ⟨by
      have : l ≠ j := fun e => hn (e ▸ z.2)
      omega, z.2⟩⟩⟩
    by_cases c : bt M j = true
    · rw [if_neg (h11t (by omega) c)]
      obtain ⟨R, y2, w, e1, t1, w1, kq1, _, _, k1⟩ := goes_ok (dn := (1 : Int32) <<< (nI j &&& 31)) (M := wo1 M j) (d := d) (s := s) y1 (by rw [es]; exact hW) h1.2 (by rw [es]; exact lv_1 hM (by omega)) hd hs (by rw [es]; exact hon)
      rw [es] at t1
      have h3 : yF go_W y0 y2 ∧ kq y2 := ⟨yF_tr h1.1 w1, kq1⟩
      rw [e1, Option.bind_some]
      rcases k1 with ⟨k1, rfl⟩ | ⟨k1, rfl⟩
      · dsimp only
        rw [if_neg (show ¬ (1 : Int32) = 0 by decide)]
        refine skip y2 h3 (fun ⟨_, R', t2, k2⟩ => ?_)
        rw [tr_un hN _ _ _ _ _ _ _ t2 t1] at k2
        exact k2 k1
      · dsimp only
        rw [if_pos (show (0 : Int32) = 0 from rfl)]
        refine ih (_, y2) ⟨h3, fun l => ?_⟩
        show bt (a ||| _) l = true ↔ _
        rw [b_or, b_bit (by omega), Bool.or_eq_true, decide_eq_true_eq, h2 l]
        constructor
        · rintro (z | rfl)
          · exact ⟨by omega, z.2⟩
          · exact ⟨by omega, c, R, t1, k1⟩
        · intro z
          by_cases e : l = j
          · exact Or.inr e
          · exact Or.inl ⟨by omega, z.2⟩
    · rw [if_pos (h11f (by omega) c)]
      exact skip y1 h1 (fun z => c z.1)) mF 0 (0, y0) (Nat.lt_of_lt_of_le (show sm (y0.1 289) < mF from Nat.lt_of_le_of_lt m16 (by decide)) (Nat.le_add_left _ _)) (Nat.zero_le _) ⟨⟨yF_rf _ _, hk⟩, fun l => by
        show bt (0 : Int32) l = true ↔ _
        rw [b_0]
        exact ⟨fun z => (by cases z), fun z => absurd z.1 (by omega)⟩⟩
  obtain ⟨r, e, k1, k2, k3⟩ := z
  exact ⟨r.1, r.2, e, k1, k2, k3⟩
/-- both say whether data can be sent; the class's tables are laid -/
theorem two_go (h : IV np rt x y) (p1 p2 : Int32) : ∃ r x1, f_X10_canGo p1 p2 x = some (r, x1) ∧ f_X11_canSend p1 p2 y = some r ∧ IV np rt x1 y ∧ ((∃ s d, csd (y.1 289) np p1 p2 s d ∧ r = 1 ∧ x1.1 0 8 = 0 ∧ ct_r x1.1 (y.1 289) (y.1 289 2) (y.1 289 3) d) ∨ r = 0) := by
  obtain ⟨r, x1, e1, i1, k⟩ := canGo_iv h p1 p2
  refine ⟨r, x1, e1, ?_, i1, ?_⟩
  · rcases canSend_y h.1.1 h.2.1.1 p1 p2 with ⟨s', d', k', e'⟩ | ⟨k', e'⟩
    · rcases k with ⟨s, d, k, rfl, _⟩ | ⟨k, _⟩
      · exact e'
      · exact absurd k' (k s' d')
    · rcases k with ⟨s, d, k, _⟩ | ⟨k, rfl⟩
      · exact absurd k (k' s d)
      · exact e'
  · exact k.imp id (fun z => z.2)
theorem st_loss (h : IV np rt x y) : sam (f_X10_loss p1 p2 x) (f_X11_loss p1 p2 y) := by
  unfold f_X10_loss f_X11_loss
  have n8 := h.1.1.1
  have m16 := h.1.1.2.2.1
  obtain ⟨r, x1, e1, e2, i1, ⟨s, d, k, rfl, z8, ct⟩ | rfl⟩ := two_go h p1 p2
  · obtain ⟨s1, d1, rfl, rfl, sd, os, od⟩ := k
    obtain ⟨V, v1, v2⟩ := live_ok x1 i1.1.2 i1.1.1
    obtain ⟨V', v3, v4⟩ := netLinks_ok y h.1.1
    have eV := sL_un v4 v2
    subst eV
    obtain ⟨r, x2, f1, f2, f3⟩ := loss_x (M := V') i1 z8 (show s < 8 by omega) (show d < 8 by omega) ct (fun l hl => by have := ((v2 l).mp hl).1; omega)
    obtain ⟨r', y2, g1, g2, g3, g4⟩ := loss_y (M := V') y h.1.1 h.2.2.2.2.2.2.2.1 (show s < 8 by omega) (show d < 8 by omega) os v2
    rw [e1, Option.bind_some, e2, Option.bind_some]
    dsimp only
    rw [if_neg (show ¬ (1 : Int32) = 0 by decide), if_neg (show ¬ (1 : Int32) = 0 by decide), v1, Option.bind_some, v3, Option.bind_some, f1, g1]
    exact ⟨r, x2, y2, rfl, by rw [bt_same f2 g2], np, rt, IV_yk f3 g3 gok g4⟩
  · rw [e1, Option.bind_some, e2, Option.bind_some]
    exact ⟨_, x1, y, rfl, rfl, np, rt, i1⟩
end SM
