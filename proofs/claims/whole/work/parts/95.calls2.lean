/-! ===== calls by the tables: head, last, order, hop, way, both, dear, ear ===== -/
section SF
variable {np rt w : Nat} {x x' : mX} {y y' : mY} {p1 p2 p3 p4 : Int32}
/-- the entries of a place, of both -/
def ent (x : mX) (y : mY) (a v n p t : Nat) (f : Nat → Nat) (rd bl : Nat) : Prop := tb_ok (sA (y.1 289) (y.1 289 3)) (bS (y.1 289 2)) a v n p t f rd bl ∧ ct_v x.1 (y.1 289) (y.1 289 3) a v n p rd bl ∧ y.1 296 (8 * a + v) = nI n ∧ y.1 297 (8 * a + v) = nI p ∧ y.1 298 (8 * a + v) = nI t ∧ (∀ i, i < g_n (g_B (sA (y.1 289) (y.1 289 3)) (bS (y.1 289 2)) v p) 8 → y.1 299 (8 * (8 * a + v) + i) = nI (f i)) ∧ y.1 300 (8 * a + v) = nI rd ∧ y.1 301 (8 * a + v) = nI bl
theorem knk : ∀ q c, kn_W q c → skY q c := fun q c z => by unfold kn_W at z; unfold skY scY; omega
theorem two_way (h : IV np rt x y) (p1 p2 : Int32) : ∃ r0 x1 y1, f_X10_hasWay p1 p2 x = some (r0, x1) ∧ IV np rt x1 y1 ∧ ((∃ a v n p t f rd bl, a < np ∧ v < np ∧ p1 = nI a ∧ p2 = nI v ∧ r0 = 1 ∧ x1.1 0 8 = 0 ∧ ct_r x1.1 (y1.1 289) (y1.1 289 2) (y1.1 289 3) a ∧ f_X11_placeOf p1 p2 y = some (nI (8 * a + v), y1) ∧ k_ok y1.1 ∧ ent x1 y1 a v n p t f rd bl) ∨ (r0 = 0 ∧ f_X11_placeOf p1 p2 y = some (-1, y1))) := by
  obtain ⟨r0, x1, e1, i1, k1⟩ := hasWay_ok h p1 p2
  obtain ⟨y1, w1, kq1, k2⟩ := placeOf_ok y h.1.1 h.2.1.1 h.2.2.2.2.2.2.2.1 p1 p2
  have es : y1.1 289 = y.1 289 := yF_row w1 (fun c => by unfold kn_W; omega)
  refine ⟨r0, x1, y1, e1, IV_yk i1 w1 knk kq1, ?_⟩
  have hN := sN_learnt h.1.1
  rcases k1 with ⟨a, v, pl1, k3, k4, k5⟩ | ⟨no1, k3⟩
  · rcases k2 with ⟨a', v', pl2, k6, k7⟩ | ⟨no2, k6⟩
    · have n8 := h.1.1.1
      have ea : a' = a := (nI_eq (by have := pl2.1; omega) (by have := pl1.1; omega)).mp (pl2.2.2.1.symm.trans pl1.2.2.1)
      have ev : v' = v := (nI_eq (by have := pl2.2.1; omega) (by have := pl1.2.1; omega)).mp (pl2.2.2.2.1.symm.trans pl1.2.2.2.1)
      subst ea
      subst ev
      have a8 := pl1.1
      have v8 := pl1.2.1
      rcases k5 v' (by omega) with ⟨n, p, t, f, rd, bl, t1, t2⟩ | ⟨no, _⟩
      · left
        have e1 : (8 * a' + v') / 8 = a' := by omega
        have e2 : (8 * a' + v') % 8 = v' := by omega
        rcases k7 (8 * a' + v') (by omega) with ⟨n', p', t', f', rd', bl', u1, u2, u3, u4, u5, u6, u7⟩ | ⟨no, _⟩
        · rw [e1, e2] at u1
          rw [e2] at u5
          rw [es] at u1 u5
          obtain ⟨rfl, rfl, rfl, rfl, rfl, ef⟩ := tb_un hN.2.1 t1 u1
          refine ⟨a', v', n, p, t, f, rd, bl, a8, v8, pl1.2.2.1, pl1.2.2.2.1, k3, k4, by rw [es]; exact k5, k6, k7, ?_⟩
          unfold ent
          rw [es]
          exact ⟨t1, t2, u2, u3, u4, fun i hi => by rw [u5 i hi, ef i hi], u6, u7⟩
        · rw [e1, e2, es] at no
          exact absurd ⟨pl1.2.2.2.2.2, pl1.2.2.2.2.1⟩ no
      · exact absurd ⟨pl1.2.2.2.2.2, pl1.2.2.2.2.1⟩ no
    · exact absurd pl1 (no2 a v)
  · rcases k2 with ⟨a', v', pl2, k6, k7⟩ | ⟨no2, k6⟩
    · exact absurd pl2 (no1 a' v')
    · exact Or.inr ⟨k3, k6⟩
theorem placeOf_F {r : Int32} (e : f_X11_placeOf p1 p2 y = some (r, y')) (h : IV np rt x y) : yF kn_W y y' ∧ kq y' := by
  obtain ⟨y1, w1, kq1, k2⟩ := placeOf_ok y h.1.1 h.2.1.1 h.2.2.2.2.2.2.2.1 p1 p2
  have ey : y' = y1 := by
    rcases k2 with ⟨a, v, _, k6, _⟩ | ⟨_, k6⟩
    · rw [e] at k6
      exact congrArg Prod.snd (Option.some.inj k6)
    · rw [e] at k6
      exact congrArg Prod.snd (Option.some.inj k6)
  rw [ey]
  exact ⟨w1, kq1⟩
theorem m1_not : ¬ (0 : Int32) ≤ -1 := by decide
theorem st_head (h : IV np rt x y) : sam (f_X10_head p1 p2 x) (f_X11_head p1 p2 y) := by
  unfold f_X10_head f_X11_head
  obtain ⟨r0, x1, y1, e1, i1, ⟨a, v, n, p, t, f, rd, bl, a8, v8, rfl, rfl, rfl, z8, ct, e2, ko, en⟩ | ⟨rfl, e2⟩⟩ := two_way h p1 p2
  · have n8 := h.1.1.1
    rw [e1, Option.bind_some, e2, Option.bind_some]
    dsimp only
    rw [if_neg (by decide), headOf_ok (by omega) (by omega), Option.bind_some, en.2.1.1, if_pos (nI_pos' (by omega)), if_pos (in_ok (by omega) (by decide)), cl (by omega), en.2.2.2.1]
    exact ⟨_, x1, y1, rfl, rfl, np, rt, i1⟩
  · rw [e1, Option.bind_some, e2, Option.bind_some]
    exact ⟨_, x1, y1, rfl, rfl, np, rt, i1⟩
theorem ent_8 (hN : g_N (sA (y.1 289) (y.1 289 3)) (bS (y.1 289 2))) {a v n p t rd bl : Nat} {f : Nat → Nat} (h : ent x y a v n p t f rd bl) : g_T (sA (y.1 289) (y.1 289 3)) (g_B (sA (y.1 289) (y.1 289 3)) (bS (y.1 289 2)) v p) ∧ g_B (sA (y.1 289) (y.1 289 3)) (bS (y.1 289 2)) v p p ∧ p < 8 ∧ ∀ c, g_B (sA (y.1 289) (y.1 289 3)) (bS (y.1 289 2)) v p c → c < 8 := by
  have k := tb_B hN h.1.1 h.1.2.1 h.1.2.2.1
  exact ⟨k.1, k.2.2.1, k.2.2.2.2 p k.2.2.1, k.2.2.2.2⟩
theorem st_last (h : IV np rt x y) : sam (f_X10_last p1 p2 x) (f_X11_last p1 p2 y) := by
  unfold f_X10_last f_X11_last
  obtain ⟨r0, x1, y1, e1, i1, ⟨a, v, n, p, t, f, rd, bl, a8, v8, rfl, rfl, rfl, z8, ct, e2, ko, en⟩ | ⟨rfl, e2⟩⟩ := two_way h p1 p2
  · have n8 := h.1.1.1
    have hN := sN_learnt i1.1.1
    have p8 := ent_8 hN.2.1 en
    rw [e1, Option.bind_some, e2, Option.bind_some]
    dsimp only
    rw [if_neg (by decide), ownOf_ok (by omega) (by omega), Option.bind_some, headOf_ok (by omega) (by omega), Option.bind_some, en.2.1.1, en.2.1.2.1, lastOf_ok x1 hN.2.1 (i1.2.2.2.2.2.2.1 z8).1.2.2.1 en.1.2.2.2.2.1 p8.2.2.1 en.1.2.2.2.2.2.1, Option.bind_some, if_pos (nI_pos' (by omega)), if_pos (in_ok (by omega) (by decide)), cl (by omega), en.2.2.2.2.1]
    exact ⟨_, x1, y1, rfl, rfl, np, rt, i1⟩
  · rw [e1, Option.bind_some, e2, Option.bind_some]
    exact ⟨_, x1, y1, rfl, rfl, np, rt, i1⟩
theorem st_hop (h : IV np rt x y) : sam (f_X10_hop p1 p2 p3 x) (f_X11_hop p1 p2 p3 y) := by
  unfold f_X10_hop f_X11_hop
  obtain ⟨r0, x1, y1, e1, i1, ⟨a, v, n, p, t, f, rd, bl, a8, v8, rfl, rfl, rfl, z8, ct, e2, ko, en⟩ | ⟨rfl, e2⟩⟩ := two_way h p1 p2
  · have n8 := h.1.1.1
    rw [e1, Option.bind_some, e2, Option.bind_some]
    dsimp only
    rcases which_c p3 with ⟨c, hc, rfl, _, k1, _, k2⟩ | ⟨_, _, k1, _, k2⟩
    · obtain ⟨u, hh⟩ : ∃ u, hp (sA (y1.1 289) (y1.1 289 3)) (bS (y1.1 289 2)) c a v u := ⟨_, n, p, t, f, rd, bl, en.1, rfl⟩
      have g1 := ct_hop (sN_learnt i1.1.1) (show a < 8 by omega) ct hc hh
      have g2 := hopOf_ok y1 i1.1.1 ko (show a < 8 by omega) hc hh
      rw [k1, k2, if_neg (by decide), if_neg (by decide), next_ok (by omega) (by omega) hc, Option.bind_some, g1.1, if_neg (nI_pos (by omega)), if_neg (by decide), g2.1, Option.bind_some]
      exact ⟨_, x1, y1, rfl, rfl, np, rt, i1⟩
    · rw [k1, k2, if_pos rfl, if_neg (nI_pos (by omega)), if_pos rfl]
      exact ⟨_, x, y1, rfl, rfl, np, rt, IV_yk h (placeOf_F e2 h).1 knk (placeOf_F e2 h).2⟩
  · rcases which_c p3 with ⟨c, hc, rfl, _, k1, _, k2⟩ | ⟨_, _, k1, _, k2⟩
    · rw [k1, if_neg (by decide), e1, Option.bind_some, e2, Option.bind_some]
      exact ⟨_, x1, y1, rfl, rfl, np, rt, i1⟩
    · rw [k1, if_pos rfl, e2, Option.bind_some]
      exact ⟨_, x, y1, rfl, rfl, np, rt, IV_yk h (placeOf_F e2 h).1 knk (placeOf_F e2 h).2⟩
end SF
