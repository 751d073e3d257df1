/-! ===== the text: the class's sorts and values of tokens ===== -/
section TB
variable {B : Nat → Nat} {b i e : Nat} {x : mX}
theorem kd_first {q : Nat} (hq : q < 5) (h : wrd B i (e - i) = KWD q) (hie : i < e) : B i = srt (20 + q) := by
  have t : ∀ q, q < 5 → KWB q 0 = srt (20 + q) := by decide +kernel
  have w := wrd_eq (B := B) (B' := KWB q) (i := i) (j := 0) (n := e - i) (m := (KWD q).length)
  rw [(KW_w q hq).1] at w
  have := (w.mp h).2 0 (by omega)
  rw [← t q hq]
  exact this
theorem sort_small : ∀ c, c < 256 → isLt c = true → ¬ c = 59 ∧ ¬ isDg c = true := by decide +kernel
theorem dig_small : ∀ c, c < 256 → isDg c = true → ¬ c = 59 := by decide +kernel
theorem sortOf_x (h : tpBx B b x) (hi : i < b) (hie : i < e) (he : e ≤ b) : f_X5_sortOf (nI i) (nI e) x = some (nI (srt (kdT B i e))) := by
  have b2 := h.1
  have c256 := (h.2.2 i hi).1
  have one : ¬ (1 : Int32) = 0 := by decide
  have zero : (0 : Int32) = 0 := rfl
  unfold f_X5_sortOf kdT
  rw [byte_x h i (by omega), Option.bind_some, if_pos hi, (cB _ c256).2.2, (cB _ c256).2.1, nI_sb (by omega)]
  by_cases cl' : isLt (B i) = true
  · have s := sort_small _ c256 cl'
    rw [if_neg (show ¬ nI (B i) = (59 : Int32) from fun z => s.1 ((nI_eq (b := 59) (by omega) (by decide)).mp z)), if_neg s.2, if_pos zero, if_pos cl', if_neg one]
    by_cases c8 : 8 < e - i
    · rw [if_neg (show ¬ nI (e - i) ≤ (8 : Int32) from nI_ge (a := 8) c8 (by omega)), if_pos cl', if_pos c8]
      rfl
    · rw [if_pos (show nI (e - i) ≤ (8 : Int32) from nI_le (b := 8) (by omega) (by decide)), if_pos cl', if_neg c8, spells_x h (q := 0) (by decide) hie he, Option.bind_some, m_jn]
      dsimp only
      have fin : ∀ q, q < 5 → wrd B i (e - i) = KWD q → (if (1 : Int32) = 0 then some (110 : Int32) else some (nI (B i))) = some (nI (srt (kdW (wrd B i (e - i))))) := fun q hq hw => by
        rw [if_neg one, kd_first hq hw hie]
        rcases kdW_v (wrd B i (e - i)) with k | ⟨p, p1, p2, p3⟩
        · exfalso
          have no : ∀ q, q < 5 → kdW (KWD q) ≠ 1 := by decide +kernel
          rw [hw] at k
          exact no q hq k
        · rw [p2, KW_i q hq p p1 (hw.symm.trans p3)]
      rw [spells_x h (q := 1) (by decide) hie he, spells_x h (q := 2) (by decide) hie he, spells_x h (q := 3) (by decide) hie he, spells_x h (q := 4) (by decide) hie he]
      simp only [Option.bind_some]
      by_cases c0 : wrd B i (e - i) = KWD 0
      · rw [if_pos c0, if_neg one]
        exact fin 0 (by decide) c0
      rw [if_neg c0, if_pos zero]
      by_cases c1 : wrd B i (e - i) = KWD 1
      · rw [if_pos c1, if_neg one]
        exact fin 1 (by decide) c1
      rw [if_neg c1, if_pos zero]
      by_cases c2 : wrd B i (e - i) = KWD 2
      · rw [if_pos c2, if_neg one]
        exact fin 2 (by decide) c2
      rw [if_neg c2, if_pos zero]
      by_cases c3 : wrd B i (e - i) = KWD 3
      · rw [if_pos c3, if_neg one]
        exact fin 3 (by decide) c3
      rw [if_neg c3, if_pos zero]
      by_cases c4 : wrd B i (e - i) = KWD 4
      · rw [if_pos c4, if_neg one]
        exact fin 4 (by decide) c4
      rw [if_neg c4, if_pos zero, if_pos trivial]
      unfold kdW
      rw [if_neg c0, if_neg c1, if_neg c2, if_neg c3, if_neg c4]
      rfl
  · rw [if_neg cl', if_neg cl']
    by_cases cd : isDg (B i) = true
    · rw [if_neg (show ¬ nI (B i) = (59 : Int32) from fun z => dig_small _ c256 cd ((nI_eq (b := 59) (by omega) (by decide)).mp z)), if_pos cd, if_neg one, if_pos cd]
      by_cases c4 : 4 < e - i
      · rw [if_pos (show (4 : Int32) < nI (e - i) from nI_lt (a := 4) c4 (by omega)), if_pos c4]
        rfl
      · rw [if_neg (show ¬ (4 : Int32) < nI (e - i) from nI_nlt (a := 4) (by omega) (by decide)), if_neg c4]
        rfl
    · rw [if_neg cd, if_neg cd]
      by_cases c59 : B i = 59
      · rw [if_pos (show nI (B i) = (59 : Int32) by rw [c59]; rfl), if_pos c59]
        rfl
      · rw [if_neg (show ¬ nI (B i) = (59 : Int32) from fun z => c59 ((nI_eq (b := 59) (by omega) (by decide)).mp z)), if_neg c59, if_pos zero, if_pos zero]
        rfl
theorem ch_96 : ∀ c, c < 256 → 97 ≤ c → c ≤ 122 → (nI c - 96).toInt64 = lN (c - 96) := by decide +kernel
theorem ch_48 : ∀ c, c < 256 → 48 ≤ c → c ≤ 57 → (nI c - 48).toInt64 = lN (c - 48) := by decide +kernel
/-- the class's value of any token: there is one -/
theorem packed_s (h : tpBx B b x) (p q : Int32) (he : e ≤ b) : ∀ t k (s : Int64), k ≤ 8 → 8 - k < t → ∃ v, f_X5_packed_L6 (nI i) (nI e) p q t s (nI k) x = some v
  | 0, _, _, _, h => absurd h (Nat.not_lt_zero _)
  | t + 1, k, s, hk, ht => by
    have b2 := h.1
    rw [f_X5_packed_L6]
    by_cases c : 8 ≤ k
    · exact ⟨s, by rw [if_pos (show (8 : Int32) ≤ nI k from nI_le (a := 8) c (by omega))]⟩
    · rw [if_neg (show ¬ (8 : Int32) ≤ nI k from nI_ge (b := 8) (by omega) (by decide)), nI_add]
      by_cases d : nI e ≤ nI (i + k)
      · exact ⟨s, by rw [if_pos d]⟩
      · rw [if_neg d, nI_1]
        have g : ∃ v, f_X5_byteAt (nI (i + k)) x = some v := by
          unfold f_X5_byteAt
          by_cases c1 : nI (i + k) < 0
          · exact ⟨_, if_pos c1⟩
          rw [if_neg c1]
          by_cases c2 : x.1 1 0 ≤ nI (i + k)
          · exact ⟨_, if_pos c2⟩
          rw [if_neg c2]
          by_cases c3 : (2000 : Int32) ≤ nI (i + k)
          · exact ⟨_, if_pos c3⟩
          rw [if_neg c3]
          refine ⟨_, if_pos ?_⟩
          unfold m_in
          rw [decide_eq_true c1, Bool.true_and, decide_eq_true_eq]
          have l := Int32.not_le.mp c3
          rw [Int32.lt_iff_toInt_lt] at l
          have t2000 : (2000 : Int32).toInt = 2000 := by decide
          rw [t2000] at l
          show (nI (i + k)).toInt.toNat < 2000
          omega
        obtain ⟨v, g⟩ := g
        rw [g, Option.bind_some]
        exact packed_s h p q he t (k + 1) _ (by omega) (by omega)
theorem packed_n (h : tpBx B b x) (he : e ≤ b) (hl : ltr B i (e - i)) (h8 : e - i ≤ 8) (hie : i ≤ e) : ∀ t k, k ≤ e - i → 8 - k < t → f_X5_packed_L6 (nI i) (nI e) 32 96 t (lN (vlw B 32 i k)) (nI k) x = some (lN (vlw B 32 i (e - i)))
  | 0, _, _, h => absurd h (Nat.not_lt_zero _)
  | t + 1, k, hk, ht => by
    have b2 := h.1
    rw [f_X5_packed_L6]
    by_cases c : 8 ≤ k
    · rw [if_pos (show (8 : Int32) ≤ nI k from nI_le (a := 8) c (by omega)), show k = e - i by omega]
    · rw [if_neg (show ¬ (8 : Int32) ≤ nI k from nI_ge (b := 8) (by omega) (by decide)), nI_add]
      by_cases d : e ≤ i + k
      · rw [if_pos (nI_le d (by omega)), show k = e - i by omega]
      · have lk := hl k (by omega)
        have c256 := (h.2.2 (i + k) (by omega)).1
        rw [if_neg (nI_ge (by omega) (by omega)), nI_1, byte_x h (i + k) (by omega), Option.bind_some, if_pos (by omega), ch_96 _ c256 lk.1 lk.2, show (32 : Int32).toInt64 = lN 32 from rfl, lN_mul, lN_add]
        exact packed_n h he hl h8 hie t (k + 1) (by omega) (by omega)
theorem packed_d (h : tpBx B b x) (he : e ≤ b) (hl : ∀ k, k < e - i → 48 ≤ B (i + k) ∧ B (i + k) ≤ 57) (h8 : e - i ≤ 4) (hie : i ≤ e) : ∀ t k, k ≤ e - i → 8 - k < t → f_X5_packed_L6 (nI i) (nI e) 10 48 t (lN (vdg B i k)) (nI k) x = some (lN (vdg B i (e - i)))
  | 0, _, _, h => absurd h (Nat.not_lt_zero _)
  | t + 1, k, hk, ht => by
    have b2 := h.1
    rw [f_X5_packed_L6, if_neg (show ¬ (8 : Int32) ≤ nI k from nI_ge (b := 8) (by omega) (by decide)), nI_add]
    by_cases d : e ≤ i + k
    · rw [if_pos (nI_le d (by omega)), show k = e - i by omega]
    · have lk := hl k (by omega)
      have c256 := (h.2.2 (i + k) (by omega)).1
      rw [if_neg (nI_ge (by omega) (by omega)), nI_1, byte_x h (i + k) (by omega), Option.bind_some, if_pos (by omega), ch_48 _ c256 lk.1 lk.2, show (10 : Int32).toInt64 = lN 10 from rfl, lN_mul, lN_add]
      exact packed_d h he hl h8 hie t (k + 1) (by omega) (by omega)
end TB
