/-! ===== the text: the reference's tokens, steps ===== -/
section TF
variable {B : Nat → Nat} {b : Nat} {y : mY}
theorem lt_y (h : tpBy B b y) {i : Nat} : f_X11_isLetter (if i < b then nI (B i) else 0) = (if i < b ∧ isLt (B i) = true then 1 else 0) := by
  by_cases c : i < b
  · rw [if_pos c, (x11_lt _).1, (cB _ (h.2.2 i c).1).2.1]
    by_cases d : isLt (B i) = true
    · rw [if_pos d, if_pos ⟨c, d⟩]
    · rw [if_neg d, if_neg (fun z => d z.2)]
  · rw [if_neg c, if_neg (fun z => c z.1)]
    exact cM.2.2.2.1
theorem dg_y (h : tpBy B b y) {i : Nat} : f_X11_isDigit (if i < b then nI (B i) else 0) = (if i < b ∧ isDg (B i) = true then 1 else 0) := by
  by_cases c : i < b
  · rw [if_pos c, (x11_lt _).2, (cB _ (h.2.2 i c).1).2.2]
    by_cases d : isDg (B i) = true
    · rw [if_pos d, if_pos ⟨c, d⟩]
    · rw [if_neg d, if_neg (fun z => d z.2)]
  · rw [if_neg c, if_neg (fun z => c z.1)]
    exact cM.2.2.2.2
theorem app_c : ∀ c, c < 256 → 97 ≤ c → c ≤ 122 → ((nI c - (97 : Int32)) + (1 : Int32)).toInt64 = lN (c - 96) ∧ ¬ nI c = 0 := by decide +kernel
theorem rparts_w (h : tpBy B b y) {i : Nat} (kk : Int32 → Int64 → Option mY) : ∀ t m, i + m ≤ b → b - (i + m) < t → ltr B i m → f_X11_parts_L85 (nI i) t (nI m) (lN (vlw B 27 i (min m 8))) y kk = kk (nI (enP B b isLt (i + m) - i)) (lN (vlw B 27 i (min (enP B b isLt (i + m) - i) 8)))
  | 0, _, _, h, _ => absurd h (Nat.not_lt_zero _)
  | t + 1, m, hm, ht, hl => by
    have b2 := h.1
    rw [f_X11_parts_L85, nI_add, byte_y h (i + m) (by omega), Option.bind_some, lt_y h]
    by_cases c : i + m < b ∧ isLt (B (i + m)) = true
    · have lc := of_decide_eq_true c.2
      have hl' : ltr B i (m + 1) := fun k hk => by
        by_cases e : k = m
        · rw [e]; exact lc
        · exact hl k (by omega)
      have ih := rparts_w h kk t (m + 1) (by omega) (by omega) hl'
      rw [if_pos c, if_neg (show ¬ (1 : Int32) = 0 by decide), nI_1, enP_y c.1 c.2]
      by_cases c8 : 8 ≤ m
      · rw [if_pos (show (8 : Int32) ≤ nI m from nI_le (a := 8) c8 (by omega)), show min m 8 = min (m + 1) 8 by omega]
        exact ih
      · have a := app_c _ (h.2.2 (i + m) c.1).1 lc.1 lc.2
        rw [if_neg (show ¬ (8 : Int32) ≤ nI m from nI_ge (b := 8) (by omega) (by decide)), Option.bind_some, if_pos c.1]
        unfold f_X11_appends
        rw [if_neg a.2, Option.bind_some, a.1, show (27 : Int64) = lN 27 from rfl, lN_mul, lN_add, show min m 8 = m by omega]
        rw [show min (m + 1) 8 = m + 1 by omega] at ih
        rw [show 27 * vlw B 27 i m + (B (i + m) - 96) = vlw B 27 i (m + 1) from by
          show _ = vlw B 27 i m * 27 + (B (i + m) - 96)
          rw [Nat.mul_comm]]
        exact ih
    · rw [if_neg c, if_pos rfl, enP_n c, show i + m - i = m by omega]
theorem dig_c : ∀ v, v < 1000 → ∀ c, c < 58 → 48 ≤ c → (((10 : Int32) * nI v) + nI c) - (48 : Int32) = nI (v * 10 + (c - 48)) := by
  intro v hv c hc h48
  rw [show (10 : Int32) * nI v = nI (10 * v) from pk_mul 10 v, nI_add, show (48 : Int32) = nI 48 from rfl, nI_sb (by omega)]
  congr 1
  omega
theorem vdg_b {i : Nat} : ∀ m, m ≤ 3 → (∀ k, k < m → 48 ≤ B (i + k) ∧ B (i + k) ≤ 57) → vdg B i m < 10 ^ m
  | 0, _, _ => by show 0 < 1; omega
  | m + 1, hm, h => by
    have ih := vdg_b m (by omega) (fun k hk => h k (by omega))
    have a := h m (by omega)
    show vdg B i m * 10 + (B (i + m) - 48) < 10 ^ m * 10
    omega
theorem rparts_d (h : tpBy B b y) {i : Nat} (kk : Int32 → Int32 → Option mY) : ∀ t m, i + m ≤ b → b - (i + m) < t → (∀ k, k < m → 48 ≤ B (i + k) ∧ B (i + k) ≤ 57) → f_X11_parts_L207 (nI i) t (nI m) (nI (vdg B i (min m 4))) y kk = kk (nI (enP B b isDg (i + m) - i)) (nI (vdg B i (min (enP B b isDg (i + m) - i) 4)))
  | 0, _, _, h, _ => absurd h (Nat.not_lt_zero _)
  | t + 1, m, hm, ht, hl => by
    have b2 := h.1
    rw [f_X11_parts_L207, nI_add, byte_y h (i + m) (by omega), Option.bind_some, dg_y h]
    by_cases c : i + m < b ∧ isDg (B (i + m)) = true
    · have lc := of_decide_eq_true c.2
      have hl' : ∀ k, k < m + 1 → 48 ≤ B (i + k) ∧ B (i + k) ≤ 57 := fun k hk => by
        by_cases e : k = m
        · rw [e]; exact lc
        · exact hl k (by omega)
      have ih := rparts_d h kk t (m + 1) (by omega) (by omega) hl'
      rw [if_pos c, if_neg (show ¬ (1 : Int32) = 0 by decide), nI_1, enP_y c.1 c.2]
      by_cases c4 : 4 ≤ m
      · rw [if_pos (show (4 : Int32) ≤ nI m from nI_le (a := 4) c4 (by omega)), show min m 4 = min (m + 1) 4 by omega]
        exact ih
      · have vb := vdg_b (i := i) m (by omega) hl
        have p10 : 10 ^ m ≤ 10 ^ 3 := Nat.pow_le_pow_right (by decide) (by omega)
        have p3 : 10 ^ 3 = 1000 := by decide
        rw [if_neg (show ¬ (4 : Int32) ≤ nI m from nI_ge (b := 4) (by omega) (by decide)), Option.bind_some, if_pos c.1, show min m 4 = m by omega, dig_c _ (by omega) _ (by omega) lc.1]
        rw [show min (m + 1) 4 = m + 1 by omega] at ih
        exact ih
    · rw [if_neg c, if_pos rfl, enP_n c, show i + m - i = m by omega]
theorem cmp_0 {a c : Int64} : lg_cmp a c = 0 ↔ a = c := by
  unfold lg_cmp
  by_cases e : a = c
  · subst e
    rw [if_neg (show ¬ a > a by simp), if_pos rfl]
    exact ⟨fun _ => rfl, fun _ => rfl⟩
  · by_cases g : a > c
    · rw [if_pos g]
      exact ⟨fun z => absurd z (by decide), fun z => absurd z e⟩
    · rw [if_neg g, if_neg e]
      exact ⟨fun z => absurd z (by decide), fun z => absurd z e⟩
theorem yK_at (hK : yKs y) : ∀ q, q < 5 → y.2 286 q = lN (KWN q) := by
  intro q hq
  have t : q = 0 ∨ q = 1 ∨ q = 2 ∨ q = 3 ∨ q = 4 := by omega
  rcases t with rfl | rfl | rfl | rfl | rfl
  · exact hK.1
  · exact hK.2.1
  · exact hK.2.2.1
  · exact hK.2.2.2.1
  · exact hK.2.2.2.2
theorem KWN_b : ∀ q, q < 5 → KWN q < 2 ^ 63 := by decide +kernel
theorem rparts_k (hK : yKs y) {i n : Nat} (hl : ltr B i n) (hn : n ≤ 8) (kk : Int32 → Option mY) : f_X11_parts_L146 (lN (vlw B 27 i n)) mF 1 0 y kk = kk (nI (kdW (wrd B i n))) := by
  have v63 := vlw_63 (r := 27) (by decide) (by decide) hn hl
  have eq : ∀ q, q < 5 → (lg_cmp (y.2 286 q) (lN (vlw B 27 i n)) = 0 ↔ wrd B i n = KWD q) := fun q hq => by
    rw [cmp_0, yK_at hK q hq, pk_lEQ (KWN_b q hq) v63, ← KW_iff hq hl]
    exact ⟨fun z => z.symm, fun z => z.symm⟩
  have z := lp_up 5 (fun t c (s : Nat) => f_X11_parts_L146 (lN (vlw B 27 i n)) t (nI s) c y kk) (fun j s => (s = 1 ∧ ∀ q, q < j → wrd B i n ≠ KWD q) ∨ ∃ q, q < j ∧ wrd B i n = KWD q ∧ s = 20 + q) (fun o => o = kk (nI (kdW (wrd B i n)))) (by
    intro t s hI
    show f_X11_parts_L146 (lN (vlw B 27 i n)) (t + 1) (nI s) (nI 5) y kk = _
    rw [f_X11_parts_L146, if_pos (by decide)]
    rcases kdW_v (wrd B i n) with k | ⟨q, q1, q2, q3⟩
    · rcases hI with ⟨a1, a2⟩ | ⟨q, q1, q2, q3⟩
      · rw [a1, k]
      · exfalso
        have no : ∀ q, q < 5 → kdW (KWD q) ≠ 1 := by decide +kernel
        rw [q2] at k
        exact no q q1 k
    · rcases hI with ⟨a1, a2⟩ | ⟨p, p1, p2, p3⟩
      · exact absurd q3 (a2 q q1)
      · rw [p3, q2, KW_i p p1 q q1 (p2.symm.trans q3)]) (by
    intro t j s hj hI ih
    show f_X11_parts_L146 (lN (vlw B 27 i n)) (t + 1) (nI s) (nI j) y kk = _
    rw [f_X11_parts_L146, if_neg (show ¬ (5 : Int32) ≤ nI j from nI_ge (b := 5) hj (by decide)), if_pos (in_ok hj (by decide)), cl (by omega), nI_1]
    by_cases c : wrd B i n = KWD j
    · rw [if_pos ((eq j hj).mpr c), show (20 : Int32) + nI j = nI (20 + j) from nI_add 20 j]
      exact ih (20 + j) (Or.inr ⟨j, by omega, c, rfl⟩)
    · rw [if_neg (fun z => c ((eq j hj).mp z))]
      refine ih s ?_
      rcases hI with ⟨a1, a2⟩ | ⟨q, q1, q2, q3⟩
      · exact Or.inl ⟨a1, fun q hq => by
          by_cases e : q = j
          · rw [e]; exact c
          · exact a2 q (by omega)⟩
      · exact Or.inr ⟨q, by omega, q2, q3⟩) mF 0 1 (by decide) (by decide) (Or.inl ⟨rfl, fun q hq => by omega⟩)
  exact z
end TF
