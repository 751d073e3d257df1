/-! ===== trips of both; would ===== -/
section SI
variable {np rt s d : Nat} {x x' : mX} {y y' : mY} {p1 p2 p3 : Int32} {σ : Nat → Int32} {P L M dn : Int32}
theorem tr_len1 (hN : s_N σ np P L) : ∀ n v (T : List Nat) (tn : Int32) R e, tb_d σ P L d 1 v e → tr σ P L M d n 1 v T tn R → R.2.1.length ≤ T.length + e
  | 0, _, _, _, _, _, _, h => h.elim
  | n + 1, v, T, tn, R, e, he, h => by
    rcases h with ⟨_, h⟩ | ⟨_, ⟨u, l, g, h⟩ | ⟨_, ⟨h, _⟩ | ⟨_, h⟩⟩⟩
    · rw [h]; exact Nat.le_add_right _ _
    · obtain ⟨e', h1, h2⟩ := tb_d_go hN he g.1
      have := tr_len1 hN n u (T ++ [l]) tn R e' h2 h
      rw [List.length_append] at this
      simp at this
      omega
    · cases h
    · rw [h]; exact Nat.le_add_right _ _
theorem tr_len0 (hN : s_N σ np P L) : ∀ n v (T : List Nat) (tn : Int32) R e, tb_d σ P L d 0 v e → tr σ P L M d n 0 v T tn R → R.2.1.length ≤ T.length + e + 7
  | 0, _, _, _, _, _, _, h => h.elim
  | n + 1, v, T, tn, R, e, he, h => by
    rcases h with ⟨_, h⟩ | ⟨_, ⟨u, l, g, h⟩ | ⟨_, ⟨_, h⟩ | ⟨h, _⟩⟩⟩
    · rw [h]
      show T.length ≤ _
      omega
    · obtain ⟨e', h1, h2⟩ := tb_d_go hN he g.1
      have := tr_len0 hN n u (T ++ [l]) tn R e' h2 h
      rw [List.length_append] at this
      simp at this
      omega
    · obtain ⟨e', k1, k2⟩ := tb_d_ex (d := d) hN 1 v
      have := tr_len1 hN n v T _ R e' k2 h
      omega
    · exact absurd rfl h
theorem tr_lk : ∀ n c v (T : List Nat) (tn : Int32) R, tr σ P L M d n c v T tn R → ∀ l, l ∈ R.2.1 → l ∈ T ∨ bt L l = true
  | 0, _, _, _, _, _, h => h.elim
  | n + 1, c, v, T, tn, R, h => by
    intro k hk
    rcases h with ⟨_, h⟩ | ⟨_, ⟨u, l, g, h⟩ | ⟨_, ⟨_, h⟩ | ⟨_, h⟩⟩⟩
    · rw [h] at hk
      exact Or.inl hk
    · rcases tr_lk n c u (T ++ [l]) tn R h k hk with z | z
      · rw [List.mem_append] at z
        rcases z with z | z
        · exact Or.inl z
        · rw [List.mem_singleton.mp z]
          exact Or.inr g.2.1
      · exact Or.inr z
    · exact tr_lk n 1 v T _ R h k hk
    · rw [h] at hk
      exact Or.inl hk
theorem tr_14 (hN : s_N σ np P L) {R : Nat × List Nat × Int32} (h : tr σ P L M d 20 0 s [] (-2) R) : R.2.1.length ≤ 14 ∧ ∀ (i l : Nat), R.2.1[i]? = some l → l < sm σ := by
  obtain ⟨e, e1, e2⟩ := tb_d_ex (d := d) hN 0 s
  have := tr_len0 hN 20 s [] (-2) R e e2 h
  simp at this
  refine ⟨by omega, fun i l hl => ?_⟩
  rcases tr_lk 20 0 s [] (-2) R h l (List.mem_of_getElem? hl) with z | z
  · cases z
  · exact hN.2.2.1 l z
theorem gok : ∀ q c, go_W q c → skY q c := fun q c z => by unfold go_W kn_W gw_W at z; unfold skY scY; omega
/-- a trip of both -/
theorem two_trip (h : IV np rt x y) (z8 : x.1 0 8 = 0) (hs : s < 8) (hd : d < 8) (ct : ct_r x.1 (y.1 289) (y.1 289 2) (y.1 289 3) d) (hon : bt (y.1 289 0) s = true) (hM : lv_M (y.1 289) dn M) : ∃ R w x1 y1, f_X8_run (nI s) (nI d) M x = some x1 ∧ f_X11_goes (nI s) (nI d) dn y = some (w, y1) ∧ x1.1 251 0 = w ∧ (w = 0 ∨ w = 1) ∧ tr (y.1 289) (y.1 289 2) (y.1 289 3) M d 20 0 s [] (-2) R ∧ tr_X x1 R.1 R.2.1 R.2.2 ∧ tr_Y y1 R.2.1 R.2.2 ∧ y1.1 279 56 = nI R.1 ∧ IV np rt x1 y1 ∧ xF tp_W x x1 ∧ yF go_W y y1 ∧ kq y1 := by
  have hN := sN_learnt h.1.1
  obtain ⟨R, x1, e1, t1, w1, q1, k1⟩ := run_ok (M := M) hN hd hs x ct
  obtain ⟨R', y1, w, e2, t2, w2, kq2, q2, q3, k2⟩ := goes_ok y h.1.1 h.2.2.2.2.2.2.2.1 hM hd hs hon
  have eR := tr_un hN _ _ _ _ _ _ _ t1 t2
  subst eR
  refine ⟨R, w, x1, y1, e1, e2, ?_, ?_, t1, q1, q2, q3, IV_yk (IV_xF h w1 (fun q c z => by unfold tp_W at z; unfold scX; omega)) w2 gok kq2, w1, w2, kq2⟩
  · rcases k1 with ⟨a1, a2⟩ | ⟨a1, a2⟩
    · rcases k2 with ⟨b1, b2⟩ | ⟨b1, b2⟩
      · rw [a2, b2]
      · exact absurd a1 b1
    · rcases k2 with ⟨b1, b2⟩ | ⟨b1, b2⟩
      · exact absurd b1 a1
      · rw [a2, b2]
  · exact k2.elim (fun z => Or.inr z.2) (fun z => Or.inl z.2)
theorem lv_0 (h : sL σ M) : lv_M σ 0 M := fun l => by
  rw [h l, b_0]
  exact ⟨fun z => ⟨z, by decide⟩, fun z => z.1⟩
theorem st_would (h : IV np rt x y) : sam (f_X10_would p1 p2 p3 x) (f_X11_would p1 p2 p3 y) := by
  unfold f_X10_would f_X11_would
  obtain ⟨r, x1, e1, i1, ⟨s, d, k, rfl, z8, ct⟩ | ⟨no, rfl⟩⟩ := canGo_iv h p1 p2
  · have n8 := h.1.1.1
    have e2 : f_X11_canSend p1 p2 y = some 1 := by
      rcases canSend_y h.1.1 h.2.1.1 p1 p2 with ⟨s', d', k', e'⟩ | ⟨k', e'⟩
      · exact e'
      · exact absurd k (k' s d)
    obtain ⟨s1, d1, rfl, rfl, sd, os, od⟩ := k
    obtain ⟨V, v1, v2⟩ := live_ok x1 i1.1.2 i1.1.1
    obtain ⟨R, w, x2, y2, g1, g2, g3, g4, g5, g6, g7, g8, g9, gx, _⟩ := two_trip i1 z8 (show s < 8 by omega) (show d < 8 by omega) ct os (lv_0 v2)
    rw [e1, Option.bind_some, e2, Option.bind_some]
    dsimp only
    rw [if_neg (show ¬ (1 : Int32) = 0 by decide), if_neg (show ¬ (1 : Int32) = 0 by decide), v1, Option.bind_some, g1, Option.bind_some]
    rcases in_4 p3 with ⟨k0, k⟩ | ⟨k1, k⟩ | ⟨k2, k⟩ | ⟨k3, k⟩ | ⟨k0, k1, k2, k3, k⟩
    · rw [k, if_neg (show ¬ (1 : Int32) = 0 by decide), g2, Option.bind_some, if_pos k0, if_pos k0, g3]
      dsimp only
      rcases g4 with rfl | rfl
      · rw [if_pos rfl, if_pos rfl]
        exact ⟨_, x2, y2, rfl, rfl, np, rt, g9⟩
      · rw [if_neg (by decide), if_neg (by decide)]
        exact ⟨_, x2, y2, rfl, rfl, np, rt, g9⟩
    · have k0 : ¬ p3 = 0 := by rw [k1]; decide
      rw [k, if_neg (show ¬ (1 : Int32) = 0 by decide), g2, Option.bind_some, if_neg k0, if_neg k0, if_pos k1, if_pos k1, g6.1]
      dsimp only
      rw [g7.1]
      exact ⟨_, x2, y2, rfl, rfl, np, rt, g9⟩
    · have k0 : ¬ p3 = 0 := by rw [k2]; decide
      have k1 : ¬ p3 = 1 := by rw [k2]; decide
      rw [k, if_neg (show ¬ (1 : Int32) = 0 by decide), g2, Option.bind_some, if_neg k0, if_neg k0, if_neg k1, if_neg k1, if_pos k2, if_pos k2, g6.2.1]
      dsimp only
      rw [g7.2.1]
      exact ⟨_, x2, y2, rfl, rfl, np, rt, g9⟩
    · have k0 : ¬ p3 = 0 := by rw [k3]; decide
      have k1 : ¬ p3 = 1 := by rw [k3]; decide
      have k2 : ¬ p3 = 2 := by rw [k3]; decide
      rw [k, if_neg (show ¬ (1 : Int32) = 0 by decide), g2, Option.bind_some, if_neg k0, if_neg k0, if_neg k1, if_neg k1, if_neg k2, if_neg k2, if_pos k3, g6.2.2.1]
      dsimp only
      rw [g8]
      exact ⟨_, x2, y2, rfl, rfl, np, rt, g9⟩
    · rw [k, if_pos (show (0 : Int32) = 0 from rfl), if_neg k0, if_neg k1, if_neg k2, if_neg k3]
      have ix : IV np rt x2 y := IV_xF i1 gx (fun q c z => by unfold tp_W at z; unfold scX; omega)
      exact ⟨_, x2, y, rfl, rfl, np, rt, ix⟩
  · have e2 : f_X11_canSend p1 p2 y = some 0 := by
      rcases canSend_y h.1.1 h.2.1.1 p1 p2 with ⟨s', d', k', e'⟩ | ⟨k', e'⟩
      · exact absurd k' (no s' d')
      · exact e'
    rw [e1, Option.bind_some, e2, Option.bind_some]
    exact ⟨_, x1, y, rfl, rfl, np, rt, i1⟩
end SI
