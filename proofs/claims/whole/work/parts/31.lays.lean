/-! ===== the reference's blocks ===== -/
section B2
variable {A : Nat → Nat → Prop} {P : Int32}
theorem nar_0 : vp_nar .boolean (0 : Int32) = 0 := nar_b 0 (Or.inl rfl)
theorem nar_1 : vp_nar .boolean (1 : Int32) = 1 := nar_b 1 (Or.inr rfl)
theorem laysBlocks_1 {w : Nat} (hw : w < 3) (h8 : b8 P) (y : mY) (hA : ∀ a b, A a b → A b a) (hE : nA (fun p => y.1 293 (8 * w + p)) = A) {Q : Option mY → Prop} (kk : mY → Option mY) (hk : ∀ y', yR 294 0 256 y y' → (∀ c, c < 256 → (bk_t A (bS P) c ∧ y'.1 294 c = 1) ∨ (¬ bk_t A (bS P) c ∧ y'.1 294 c = 0)) → Q (kk y')) : Q (f_X11_laysBlocks_L2 (nI w) P mF 0 y kk) := by
  refine lp_up 256 (fun n b s => f_X11_laysBlocks_L2 (nI w) P n b s kk) (fun j s => yR 294 0 256 y s ∧ ∀ c, c < j → (bk_t A (bS P) c ∧ s.1 294 c = 1) ∨ (¬ bk_t A (bS P) c ∧ s.1 294 c = 0)) Q ?_ ?_ mF 0 y (by decide) (by decide) ⟨yR_rf _ _ _ _, fun c hc => by omega⟩
  · intro n s hI
    show Q (f_X11_laysBlocks_L2 (nI w) P (n + 1) (nI 256) s kk)
    rw [f_X11_laysBlocks_L2, if_pos (by decide)]
    exact hk s hI.1 hI.2
  · intro n j s hj hI ih
    show Q (f_X11_laysBlocks_L2 (nI w) P (n + 1) (nI j) s kk)
    rw [f_X11_laysBlocks_L2, if_neg (k256f hj), nI_1, if_pos (in_ok hj (by decide)), cl (by omega), nar_0, nar_1]
    have put : ∀ v : Int32, ((bk_t A (bS P) j ∧ v = 1) ∨ (¬ bk_t A (bS P) j ∧ v = 0)) → Q (f_X11_laysBlocks_L2 (nI w) P n (nI (j + 1)) (m_ys s 294 j v) kk) := by
      intro v hv
      refine ih _ ⟨yR_set hI.1 (by omega) (by omega), fun c hc => ?_⟩
      by_cases e : c = j
      · subst e; rw [ys_eq]; exact hv
      · rw [ys_ec e]; exact hI.2 c (by omega)
    by_cases hs : (nI j &&& (P ^^^ (-1 : Int32))) = 0
    · rw [if_pos hs]
      rw [b_sub] at hs
      have hE' : nA (fun p => s.1 293 (8 * w + p)) = A := by rw [hI.1.1 293 (by decide)]; exact hE
      rcases isTight_ok hw (b8_nI hj) s hA hE' with ⟨t1, t2⟩ | ⟨t1, t2⟩
      · rw [t2, Option.bind_some, if_neg (by decide), if_pos (in_ok hj (by decide))]
        exact put 1 (Or.inl ⟨⟨hs, t1⟩, rfl⟩)
      · rw [t2, Option.bind_some, if_pos rfl]
        exact put 0 (Or.inr ⟨fun h => t1 h.2, rfl⟩)
    · rw [if_neg hs]
      rw [b_sub] at hs
      exact put 0 (Or.inr ⟨fun h => hs h.1, rfl⟩)
theorem laysBlocks_2 (y : mY) (ht : ∀ c, c < 256 → (bk_t A (bS P) c ∧ y.1 294 c = 1) ∨ (¬ bk_t A (bS P) c ∧ y.1 294 c = 0)) {j : Nat} (hj : j < 256) {Q : Option mY → Prop} (kk : Int32 → Option mY) (hk : ∀ v, ((bk_B A (bS P) j ∧ v = 1) ∨ (¬ bk_B A (bS P) j ∧ v = 0)) → Q (kk v)) : Q (f_X11_laysBlocks_L70 (nI j) mF (y.1 294 j) (nI (j + 1)) y kk) := by
  refine lp_up 256 (fun n b (s : Int32) => f_X11_laysBlocks_L70 (nI j) n s b y kk) (fun k s => j < k ∧ ((s = 1 ∧ bk_t A (bS P) j ∧ ∀ m, j < m → m < k → (∀ i, bt (nI j) i = true → bt (nI m) i = true) → ¬ bk_t A (bS P) m) ∨ (s = 0 ∧ ¬ bk_B A (bS P) j))) Q ?_ ?_ mF (j + 1) (y.1 294 j) (Nat.lt_of_lt_of_le (show 256 < mF by decide) (by omega)) (by omega) ⟨by omega, ?_⟩
  · intro n s hI
    show Q (f_X11_laysBlocks_L70 (nI j) (n + 1) s (nI 256) y kk)
    rw [f_X11_laysBlocks_L70, if_pos (by decide)]
    refine hk s ?_
    rcases hI.2 with ⟨h1, h2, h3⟩ | ⟨h1, h2⟩
    · exact Or.inl ⟨⟨hj, h2, h3⟩, h1⟩
    · exact Or.inr ⟨h2, h1⟩
  · intro n k s hk2 hI ih
    show Q (f_X11_laysBlocks_L70 (nI j) (n + 1) s (nI k) y kk)
    rw [f_X11_laysBlocks_L70, if_neg (k256f hk2), nI_1]
    obtain ⟨hjk, hI⟩ := hI
    rcases hI with ⟨h1, h2, h3⟩ | ⟨h1, h2⟩
    · rw [if_neg (by rw [h1]; decide)]
      have keep : ((∀ i, bt (nI j) i = true → bt (nI k) i = true) → ¬ bk_t A (bS P) k) → Q (f_X11_laysBlocks_L70 (nI j) n s (nI (k + 1)) y kk) := by
        intro hno
        refine ih s ⟨by omega, Or.inl ⟨h1, h2, fun m hm1 hm2 => ?_⟩⟩
        by_cases e : m = k
        · subst e; exact hno
        · exact h3 m hm1 (by omega)
      by_cases hs : (nI j &&& (nI k ^^^ (-1 : Int32))) = 0
      · rw [if_pos hs, if_pos (in_ok hk2 (by decide)), cl (by omega)]
        rw [b_sub] at hs
        rcases ht k hk2 with ⟨t1, t2⟩ | ⟨t1, t2⟩
        · rw [if_neg (by rw [t2]; decide)]
          exact ih 0 ⟨by omega, Or.inr ⟨rfl, fun hB => hB.2.2 k hjk hk2 hs t1⟩⟩
        · rw [if_pos t2]
          exact keep (fun _ => t1)
      · rw [if_neg hs]
        rw [b_sub] at hs
        exact keep (fun h => absurd h hs)
    · rw [if_pos h1]
      exact hk s (Or.inr ⟨h2, h1⟩)
  · rcases ht j hj with ⟨t1, t2⟩ | ⟨t1, t2⟩
    · exact Or.inl ⟨t2, t1, fun m h1 h2 => by omega⟩
    · exact Or.inr ⟨t2, fun h => t1 h.2.1⟩
/-- the cells that laysBlocks writes -/
def lB_W (q c : Nat) : Prop := q = 294 ∨ q = 295 ∨ (q = 279 ∧ c = 34)
theorem laysBlocks_ok {w : Nat} (hw : w < 3) (h8 : b8 P) (y : mY) (hN : g_N A (bS P)) (hE : nA (fun p => y.1 293 (8 * w + p)) = A) : ∃ y', f_X11_laysBlocks (nI w) P y = some y' ∧ yF lB_W y y' ∧ y'.1 279 34 = nI (g_n (bk_B A (bS P)) 256) ∧ ∀ n, bk_B A (bS P) n → y'.1 295 (g_n (bk_B A (bS P)) n) = nI n := by
  unfold f_X11_laysBlocks
  refine laysBlocks_1 (Q := fun o => ∃ y', o = some y' ∧ yF lB_W y y' ∧ y'.1 279 34 = nI (g_n (bk_B A (bS P)) 256) ∧ ∀ n, bk_B A (bS P) n → y'.1 295 (g_n (bk_B A (bS P)) n) = nI n) hw h8 y hN.1 hE _ ?_
  intro y5 hR5 ht5
  have hfew := bk_few hN
  rw [m_let]
  refine lp_ok 256 (fun n b s => f_X11_laysBlocks_L50 n b s) (fun j s => yF lB_W y s ∧ s.1 294 = y5.1 294 ∧ s.1 279 34 = nI (g_n (bk_B A (bS P)) j) ∧ ∀ n, n < j → bk_B A (bS P) n → s.1 295 (g_n (bk_B A (bS P)) n) = nI n) ?_ ?_ mF 0 (m_ys y5 279 34 0) (by decide) (by decide) ⟨?_, ?_, ?_, fun n hn => by omega⟩
  · intro n s hI
    show ∃ y', f_X11_laysBlocks_L50 (n + 1) (nI 256) s = some y' ∧ _
    rw [f_X11_laysBlocks_L50, if_pos (by decide)]
    exact ⟨s, rfl, hI.1, hI.2.2.1, fun n hB => hI.2.2.2 n hB.1 hB⟩
  · intro n j s hj hI ih
    show ∃ y', f_X11_laysBlocks_L50 (n + 1) (nI j) s = some y' ∧ _
    obtain ⟨i1, i2, i3, i4⟩ := hI
    rw [f_X11_laysBlocks_L50, if_neg (k256f hj), if_pos (in_ok hj (by decide)), cl (by omega), nI_1]
    refine laysBlocks_2 (A := A) (P := P) (Q := fun o => ∃ y', o = some y' ∧ yF lB_W y y' ∧ y'.1 279 34 = nI (g_n (bk_B A (bS P)) 256) ∧ ∀ n, bk_B A (bS P) n → y'.1 295 (g_n (bk_B A (bS P)) n) = nI n) s (by rw [i2]; exact ht5) hj _ ?_
    intro v hv
    rcases hv with ⟨v1, v2⟩ | ⟨v1, v2⟩
    · have hstep := g_n_step j v1
      have hmono := g_n_mono (P := bk_B A (bS P)) (show j + 1 ≤ 256 from hj)
      show ∃ y', (if v = 0 then _ else _) = some y' ∧ _
      rw [if_neg (by rw [v2]; decide), i3, if_pos (in_ok (by omega) (by decide)), cl (by omega), m_let, m_let]
      refine ih _ ⟨yF_set (yF_set i1 (Or.inr (Or.inl rfl))) (Or.inr (Or.inr ⟨rfl, rfl⟩)), ?_, ?_, fun n hn hB => ?_⟩
      · rw [ys_ne (by decide), ys_ne (by decide)]; exact i2
      · rw [ys_eq, ys_ne (by decide), i3, nI_1, hstep]
      · rw [ys_ne (by decide), ys_at]
        by_cases e : n = j
        · rw [e, if_pos rfl]
        · have hne : g_n (bk_B A (bS P)) n ≠ g_n (bk_B A (bS P)) j := fun z => e (g_n_inj hB v1 z)
          rw [if_neg hne]
          exact i4 n (by omega) hB
    · show ∃ y', (if v = 0 then _ else _) = some y' ∧ _
      rw [if_pos v2]
      refine ih s ⟨i1, i2, by rw [i3, g_n_stay j v1], fun n hn hB => ?_⟩
      have : n ≠ j := fun e => v1 (e ▸ hB)
      exact i4 n (by omega) hB
  · refine yF_set (yF_mo (yF_R hR5) (fun q c h => Or.inl h.1)) (Or.inr (Or.inr ⟨rfl, rfl⟩))
  · exact ys_ne (by decide)
  · exact ys_eq _ _ _ _
end B2
/-! the reference's laysNet -/
/-- which net: the posts and links of it -/
def nt_P (σ : Nat → Int32) (w : Nat) : Int32 := if w = 0 then σ 0 else σ 2
theorem sA_N {σ : Nat → Int32} {np : Nat} (hW : sW σ np) {P L : Int32} (hP : ∀ i, bt P i = true → i < np) (hL : ∀ l, bt L l = true → l < sm σ ∧ ∀ a b, a < 8 → b < 8 → sE σ l a b → bt P a = true) : s_N σ np P L := by
  obtain ⟨w1, w2, w3, w4, w5, w6, w7, w8, w9⟩ := id hW
  refine ⟨hW, ⟨sA_sy, fun a b h => ?_, fun c hc => Nat.lt_of_lt_of_le (hP c hc) w1⟩, fun l hl => (hL l hl).1, fun i hi => Nat.lt_of_lt_of_le (hP i hi) w1⟩
  obtain ⟨ha, hb, l, l1, l2, l3⟩ := h
  refine ⟨(hL l l2).2 a b ha hb l3, (hL l l2).2 b a hb ha (sE_sy l3), ?_⟩
  obtain ⟨u, v, hu, hv, huv, e1, e2⟩ := w7 l (hL l l2).1
  rcases (sE_iff (by omega) (by omega) ha hb e1 e2).mp l3 with ⟨rfl, rfl⟩ | ⟨rfl, rfl⟩
  · exact huv
  · exact Ne.symm huv
theorem sL_N {σ : Nat → Int32} {np : Nat} (hW : sW σ np) {L : Int32} (h : sL σ L) : s_N σ np (σ 0) L := sA_N hW hW.2.2.2.1 (fun l hl => ⟨((h l).mp hl).1, ((h l).mp hl).2.2⟩)
theorem sN_learnt {σ : Nat → Int32} {np : Nat} (hW : sW σ np) : s_N σ np (σ 2) (σ 3) := sA_N hW hW.2.2.2.2.1 hW.2.2.2.2.2.1
/-- the links of a net -/
def nt_L (σ : Nat → Int32) (w : Nat) (L : Int32) : Prop := (w = 0 ∧ sL σ L) ∨ (w = 1 ∧ L = σ 3)
theorem nt_N {σ : Nat → Int32} {np w : Nat} {L : Int32} (hW : sW σ np) (h : nt_L σ w L) : s_N σ np (nt_P σ w) L := by
  rcases h with ⟨rfl, h⟩ | ⟨rfl, rfl⟩
  · exact sL_N hW h
  · exact sN_learnt hW
theorem laysNet_ok {np w : Nat} (hw : w < 2) (y : mY) (hW : sW (y.1 289) np) : ∃ L y', nt_L (y.1 289) w L ∧ f_X11_laysNet (nI w) y = some (nt_P (y.1 289) w, y') ∧ yR 293 (8 * w) (8 * w + 8) y y' ∧ nA (fun p => y'.1 293 (8 * w + p)) = sA (y.1 289) L := by
  unfold f_X11_laysNet
  rw [m_jn]
  by_cases e : w = 0
  · subst e
    obtain ⟨L, l1, l2⟩ := netLinks_ok y hW
    obtain ⟨y', k1, k2, k3⟩ := lays_ok (w := 0) (by decide) y hW (fun l hl => ((l2 l).mp hl).1)
    rw [if_pos nI_0, l1, Option.bind_some]
    dsimp only
    rw [k1, Option.bind_some, if_pos nI_0, k2.1 289 (by decide)]
    exact ⟨L, y', Or.inl ⟨rfl, l2⟩, rfl, k2, nA_sA k3⟩
  · have e1 : w = 1 := by omega
    subst e1
    obtain ⟨y', k1, k2, k3⟩ := lays_ok (w := 1) (by decide) y hW (L := y.1 289 3) (fun l hl => (hW.2.2.2.2.2.1 l hl).1)
    rw [if_neg (by decide)]
    dsimp only
    rw [k1, Option.bind_some, if_neg (by decide), k2.1 289 (by decide)]
    exact ⟨_, y', Or.inr ⟨rfl, rfl⟩, rfl, k2, nA_sA k3⟩
