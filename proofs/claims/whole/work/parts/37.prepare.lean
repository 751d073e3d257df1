/-! ===== the class's prepare ===== -/
section S3
variable {σ : Nat → Int32} {P L : Int32} {np : Nat}
/-- the class's tables: of each ready root they are right -/
def t_ok (X : Nat → Nat → Int32) (σ : Nat → Int32) (P L : Int32) : Prop := ∀ q, q < 8 → bt (X 234 2) q = true → ct_r X σ P L q
def pr_W (r q c : Nat) : Prop := st_W r q c ∨ (q = 234 ∧ c = 2)
theorem pr_W_row {r q c : Nat} (h : pr_W r q c) : 234 ≤ q ∧ q ≤ 239 := by
  rcases h with h | h
  · rcases h with h | h
    · rcases h with h | h <;> omega
    · rcases h with ⟨h, _⟩ | ⟨h, _⟩ <;> omega
  · omega
theorem pr_W_not {r q c : Nat} (h : pr_W r q c) : ¬ (q = 234 ∧ c = 1) := by
  rcases h with h | h
  · rcases h with h | h
    · rcases h with h | h <;> omega
    · rcases h with ⟨h, _⟩ | ⟨h, _⟩ <;> omega
  · omega
theorem ct_e_F {x x' : mX} {r q v : Nat} (h : xF (pr_W r) x x') (hr : r < 8) (hq : q < 8) (hv : v < 8) (hne : q ≠ r) : ct_e x.1 x'.1 q v := by
  have key : ∀ k c, 236 ≤ k → ¬ ct_W r k c → x'.1 k c = x.1 k c := fun k c hk hc => h.1 k c (fun z => by
    rcases z with z | z
    · rcases z with z | z
      · rcases z with z | z <;> omega
      · exact hc z
    · omega)
  refine ⟨key _ _ (by omega) ?_, key _ _ (by omega) ?_, key _ _ (by omega) ?_, key _ _ (by omega) ?_, key _ _ (by omega) ?_, key _ _ (by omega) ?_⟩ <;>
  · rintro (⟨_, h1, h2⟩ | ⟨_, ⟨h1, h2⟩ | ⟨h1, h2⟩⟩) <;> omega
theorem ct_r_F {x x' : mX} {r q : Nat} (h : xF (pr_W r) x x') (hr : r < 8) (hq : q < 8) (hne : q ≠ r) (k : ct_r x.1 σ P L q) : ct_r x'.1 σ P L q := by
  intro v hv
  have e := ct_e_F h hr hq hv hne
  rcases k v hv with k | ⟨k1, k2⟩
  · exact Or.inl (ct_e_g e k)
  · exact Or.inr ⟨k1, ct_e_0 e k2⟩
theorem prepare_1 {r : Nat} (hr : r < 8) (x : mX) {Q : Option mX → Prop} (kk : mX → Option mX) (hk : ∀ x', xF (ct_W r) x x' → (∀ v, v < 8 → ct_0 x'.1 r v) → Q (kk x')) : Q (f_X7_prepare_L26 (nI r) mF 0 x kk) := by
  refine lp_up 8 (fun n b s => f_X7_prepare_L26 (nI r) n b s kk) (fun j s => xF (ct_W r) x s ∧ ∀ v, v < j → ct_0 s.1 r v) Q ?_ ?_ mF 0 x (by decide) (by decide) ⟨xF_rf _ _, fun v hv => by omega⟩
  · intro n s hI
    show Q (f_X7_prepare_L26 (nI r) (n + 1) (nI 8) s kk)
    rw [f_X7_prepare_L26, if_pos (by decide)]
    exact hk s hI.1 hI.2
  · intro n j s hj hI ih
    show Q (f_X7_prepare_L26 (nI r) (n + 1) (nI j) s kk)
    have q0 := fun y => putHop_0 (c := 0) hr hj (by decide) y
    have q1 := fun y => putHop_0 (c := 1) hr hj (by decide) y
    rw [show nI 0 = (0 : Int32) from rfl] at q0
    rw [show nI 1 = (1 : Int32) from rfl] at q1
    rw [f_X7_prepare_L26, if_neg (k8f hj), show nI r * (8 : Int32) = nI (r * 8) from pk_mul r 8, nI_add, if_pos (in_ok (by omega) (by decide)), cl (by omega), m_let, if_pos (in_ok (by omega) (by decide)), m_let, q0, Option.bind_some, q1, Option.bind_some, nI_1]
    obtain ⟨pe, pu, pF⟩ := (ct_put s r j (-1) 0 (-1) (-1) (-1) (-1)).2 _ rfl
    refine ih _ ⟨xF_tr hI.1 (pF hj), fun v hv => ?_⟩
    by_cases e : v = j
    · subst e
      exact ⟨pe.2.1, pe.2.2.1, pe.2.2.2.1, pe.2.2.2.2.1, pe.2.2.2.2.2⟩
    · exact ct_e_0 (pu v (by omega) hj hr e) (hI.2 v (by omega))
theorem ownOf_ok {r v : Nat} (hr : r < 8) (hv : v < 8) (x : mX) : f_X7_ownOf (nI r) (nI v) x = some (x.1 237 (r * 8 + v)) := by
  unfold f_X7_ownOf
  rw [show nI r * (8 : Int32) = nI (r * 8) from pk_mul r 8, nI_add, if_pos (in_ok (by omega) (by decide)), cl (by omega)]
theorem headOf_ok {r v : Nat} (hr : r < 8) (hv : v < 8) (x : mX) : f_X7_headOf (nI r) (nI v) x = some (x.1 236 (r * 8 + v)) := by
  unfold f_X7_headOf
  rw [show nI r * (8 : Int32) = nI (r * 8) from pk_mul r 8, nI_add, if_pos (in_ok (by omega) (by decide)), cl (by omega)]
theorem next_ok {r v c : Nat} (hr : r < 8) (hv : v < 8) (hc : c < 2) (x : mX) : f_X7_next (nI r) (nI v) (nI c) x = some (x.1 238 (c * 64 + (r * 8 + v))) := by
  unfold f_X7_next
  rw [cell_ok, if_pos (in_ok (by omega) (by decide)), cl (by omega)]
theorem linkAt_ok {r v c : Nat} (hr : r < 8) (hv : v < 8) (hc : c < 2) (x : mX) : f_X7_linkAt (nI r) (nI v) (nI c) x = some (x.1 239 (c * 64 + (r * 8 + v))) := by
  unfold f_X7_linkAt
  rw [cell_ok, if_pos (in_ok (by omega) (by decide)), cl (by omega)]
theorem prepare_2 {r : Nat} (hr : r < 8) (x : mX) (hN : s_N σ np P L) (ho : n_ok x.1 228 σ P L) (h0 : ∀ v, v < 8 → ct_0 x.1 r v) : ∃ x', f_X7_prepare_L82 (nI r) mF 0 x = some x' ∧ xF (st_W r) x x' ∧ ct_r x'.1 σ P L r := by
  have hA := hN.2.1.1
  refine lp_ok 8 (fun n b s => f_X7_prepare_L82 (nI r) n b s) (fun j s => xF (st_W r) x s ∧ ∀ v, v < 8 → ct_g s.1 σ P L r v ∨ (ct_0 s.1 r v ∧ (¬ (g_C (sA σ L) (bS P) v r ∧ v ≠ r) ∨ j ≤ v))) ?_ ?_ mF 0 x (by decide) (by decide) ⟨xF_rf _ _, fun v hv => Or.inr ⟨h0 v hv, Or.inr (by omega)⟩⟩
  · intro n s hI
    show ∃ x', f_X7_prepare_L82 (nI r) (n + 1) (nI 8) s = some x' ∧ _
    rw [f_X7_prepare_L82, if_pos (by decide)]
    refine ⟨s, rfl, hI.1, fun v hv => ?_⟩
    rcases hI.2 v hv with k | ⟨k1, k2 | k2⟩
    · exact Or.inl k
    · exact Or.inr ⟨k2, k1⟩
    · omega
  · intro n j s hj hI ih
    show ∃ x', f_X7_prepare_L82 (nI r) (n + 1) (nI j) s = some x' ∧ _
    rw [f_X7_prepare_L82, if_neg (k8f hj), nI_1]
    have hos : n_ok s.1 228 σ P L := n_ok_F hI.1 (fun q c h1 h2 (h : st_W r q c) => by have := st_W_row h; omega) ho
    have skip : (ct_g s.1 σ P L r j ∨ ¬ (g_C (sA σ L) (bS P) j r ∧ j ≠ r)) → ∃ x', f_X7_prepare_L82 (nI r) n (nI (j + 1)) s = some x' ∧ xF (st_W r) x x' ∧ ct_r x'.1 σ P L r := by
      intro hd
      refine ih s ⟨hI.1, fun v hv => ?_⟩
      rcases hI.2 v hv with k | ⟨k1, k2 | k2⟩
      · exact Or.inl k
      · exact Or.inr ⟨k1, Or.inl k2⟩
      · by_cases e : v = j
        · subst e
          rcases hd with hd | hd
          · exact Or.inl hd
          · exact Or.inr ⟨k1, Or.inl hd⟩
        · exact Or.inr ⟨k1, Or.inr (by omega)⟩
    by_cases c1 : j = r
    · rw [if_pos (by rw [c1])]
      exact skip (Or.inr (fun z => z.2 c1))
    · rw [if_neg (fun z => c1 ((nI_eq (by omega) (by omega)).mp z)), if_pos (in_ok hr (by decide)), cl (by omega)]
      by_cases c2 : bt (s.1 230 r) j = true
      · have hc : g_C (sA σ L) (bS P) j r := g_sy hA ((hos.2.2.2.1.1 r hr j).mp c2)
        rw [if_neg (h10t (by omega) c2), ownOf_ok hr hj, Option.bind_some]
        rcases hI.2 j hj with k | ⟨k1, k2⟩
        · obtain ⟨n', p, t, f, rd, bl, tb, cv⟩ := id k
          have hn0 : n' ≠ 0 := fun e => by
            have := (tb.2.2.2.2.1 j).mpr (tb_B hN.2.1 tb.1 tb.2.1 tb.2.2.1).2.1
            rw [e, nI_0, b_0] at this
            cases this
          have hn256 := tb.2.2.2.1
          rw [if_neg (by rw [cv.2.1]; exact nI_ne0 (by omega) (by omega))]
          exact skip (Or.inl k)
        · rw [if_pos k1.1]
          obtain ⟨p, hp⟩ := g_H_ex hA hN.2.1.2.2 hc c1
          obtain ⟨x', e1, e2, e3⟩ := settle_ok s hN hos hr hj hc c1 hp
          rw [e1, Option.bind_some]
          have b := tb_B hN.2.1 hc c1 hp
          refine ih x' ⟨xF_tr hI.1 e2, fun v hv => ?_⟩
          rcases e3 v hv with ⟨_, _, k⟩ | ⟨m1, m2⟩
          · exact Or.inl k
          · have hvj : v ≠ j := fun e => m1 ⟨e ▸ b.2.1, fun z => b.2.2.2.1 (z.symm.trans e)⟩
            rcases hI.2 v hv with k | ⟨q1, q2 | q2⟩
            · exact Or.inl (ct_e_g m2 k)
            · exact Or.inr ⟨ct_e_0 m2 q1, Or.inl q2⟩
            · exact Or.inr ⟨ct_e_0 m2 q1, Or.inr (by omega)⟩
      · rw [if_pos (h10f (by omega) c2)]
        exact skip (Or.inr (fun z => c2 ((hos.2.2.2.1.1 r hr j).mpr (g_sy hA z.1))))
theorem prepare_ok {r : Nat} (hr : r < 8) (x : mX) (hN : s_N σ np P L) (ho : n_ok x.1 228 σ P L) (ht : t_ok x.1 σ P L) : ∃ x', f_X7_prepare (nI r) x = some x' ∧ xF (pr_W r) x x' ∧ t_ok x'.1 σ P L ∧ ct_r x'.1 σ P L r := by
  unfold f_X7_prepare
  by_cases c : bt (x.1 234 2) r = true
  · rw [if_neg (h10t (by omega) c)]
    exact ⟨x, rfl, xF_rf _ _, ht, ht r hr c⟩
  · rw [if_pos (h10f (by omega) c), m_let]
    have F1 : xF (pr_W r) x (m_xs x 234 2 ((x.1 234 2) ||| ((1 : Int32) <<< (nI r &&& 31)))) := xF_set (xF_rf _ _) (Or.inr ⟨rfl, rfl⟩)
    refine prepare_1 (Q := fun o => ∃ x', o = some x' ∧ xF (pr_W r) x x' ∧ t_ok x'.1 σ P L ∧ ct_r x'.1 σ P L r) hr _ _ ?_
    intro x6 F6 h6
    have F6' : xF (pr_W r) x x6 := xF_tr F1 (xF_mo F6 (fun _ _ h => Or.inl (Or.inr h)))
    have ho6 : n_ok x6.1 228 σ P L := n_ok_F F6' (fun q c h1 h2 h => by have := pr_W_row h; omega) ho
    obtain ⟨x', e1, e2, e3⟩ := prepare_2 hr x6 hN ho6 h6
    have F' : xF (pr_W r) x x' := xF_tr F6' (xF_mo e2 (fun _ _ h => Or.inl h))
    have er : x'.1 234 2 = (x.1 234 2) ||| ((1 : Int32) <<< (nI r &&& 31)) := by
      rw [e2.1 234 2 (fun h => by have := st_W_row h; omega), F6.1 234 2 (fun h => by have := ct_W_row h; omega), xs_eq]
    refine ⟨x', e1, F', fun q hq hb => ?_, e3⟩
    by_cases e : q = r
    · subst e; exact e3
    · refine ct_r_F F' hr hq e (ht q hq ?_)
      rw [er, b_or, b_bit (by omega), Bool.or_eq_true, decide_eq_true_eq] at hb
      exact hb.resolve_right e
end S3
