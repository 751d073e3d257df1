/-! ===== the text: the class's split ===== -/
section TD
variable {B : Nat → Nat} {b : Nat} {x x0 : mX}
theorem xl_at (x : mX) (q c : Nat) (v : Int64) (c' : Nat) : (m_xl x q c v).2.1 q c' = if c' = c then v else x.2.1 q c' := by
  unfold m_xl va_up
  simp
theorem ltr_tk {i : Nat} (hi : i < b) (h : isLt (B i) = true) : ltr B i (tkE B b i - i) := by
  intro k hk
  unfold tkE at hk
  rw [if_pos h] at hk
  have t := enP_ok (B := B) (b := b) (P := isLt) _ (i + 1) rfl
  have g : isLt (B (i + k)) = true := by
    by_cases e : k = 0
    · rw [e]; exact h
    · exact (t.2.2.1 (i + k) (by omega) (by omega)).2
  exact of_decide_eq_true g
theorem dg_tk {i : Nat} (hi : i < b) (hl : ¬ isLt (B i) = true) (h : isDg (B i) = true) : ∀ k, k < tkE B b i - i → 48 ≤ B (i + k) ∧ B (i + k) ≤ 57 := by
  intro k hk
  unfold tkE at hk
  rw [if_neg hl, if_pos h] at hk
  have t := enP_ok (B := B) (b := b) (P := isDg) _ (i + 1) rfl
  have g : isDg (B (i + k)) = true := by
    by_cases e : k = 0
    · rw [e]; exact h
    · exact (t.2.2.1 (i + k) (by omega) (by omega)).2
  exact of_decide_eq_true g
theorem kdT_1 {i e : Nat} (h : kdT B i e = 1) : isLt (B i) = true ∧ e - i ≤ 8 := by
  unfold kdT at h
  by_cases c : isLt (B i) = true
  · rw [if_pos c] at h
    by_cases d : 8 < e - i
    · rw [if_pos d] at h; omega
    · exact ⟨c, by omega⟩
  · rw [if_neg c] at h
    split at h
    · split at h <;> omega
    · split at h <;> omega
theorem kdT_2 {i e : Nat} (h : kdT B i e = 2) : ¬ isLt (B i) = true ∧ isDg (B i) = true ∧ e - i ≤ 4 := by
  unfold kdT at h
  by_cases c : isLt (B i) = true
  · rw [if_pos c] at h
    split at h
    · omega
    · rcases kdW_v (wrd B i (e - i)) with k | ⟨q, q1, q2, _⟩ <;> omega
  · rw [if_neg c] at h
    by_cases d : isDg (B i) = true
    · rw [if_pos d] at h
      by_cases f : 4 < e - i
      · rw [if_pos f] at h; omega
      · exact ⟨c, d, by omega⟩
    · rw [if_neg d] at h
      split at h <;> omega
/-- the length of the k-th token -/
def tkL (B : Nat → Nat) (b k : Nat) : Nat := tkE B b (tkS B b k) - tkS B b k
/-- the class's tokens -/
def tkX (B : Nat → Nat) (b : Nat) (x : mX) (k : Nat) : Prop := ∀ j, j < k → kdK B b j ≠ 0 ∧ x.1 8 j = nI (srt (kdK B b j)) ∧ x.1 9 j = nI (tkS B b j) ∧ (kdK B b j = 1 → x.2.1 10 j = lN (vlw B 32 (tkS B b j) (tkL B b j))) ∧ (kdK B b j = 2 → x.2.1 10 j = lN (vdg B (tkS B b j) (tkL B b j)))
def spW (q c : Nat) : Prop := (q = 1 ∧ (c = 4 ∨ c = 9 ∨ c = 10 ∨ c = 11)) ∨ q = 8 ∨ q = 9
theorem tpBx_F (h : tpBx B b x0) (hx : ∀ q c, ¬ spW q c → x.1 q c = x0.1 q c) : tpBx B b x := ⟨h.1, by rw [hx 1 0 (by unfold spW; omega)]; exact h.2.1, fun i hi => by rw [hx 7 i (by unfold spW; omega)]; exact h.2.2 i hi⟩
theorem keep_tok {k : Nat} (h : tpBx B b x) (h4 : x.1 1 4 = nI k) (hk : k < 400) (hs : tkS B b k < b) (ht : tkX B b x k) : ∃ x1, f_X5_keepToken (nI (srt (kdK B b k))) (nI (tkS B b k)) (nI (tkE B b (tkS B b k))) x = some x1 ∧ (∀ q c, ¬ ((q = 1 ∧ c = 4) ∨ q = 8 ∨ q = 9) → x1.1 q c = x.1 q c) ∧ x1.2.2 = x.2.2 ∧ x1.1 1 4 = nI (k + 1) ∧ tkX B b x1 (k + 1) := by
  have b2 := h.1
  have eb := tkE_b (B := B) hs
  have kk : kdK B b k = kdT B (tkS B b k) (tkE B b (tkS B b k)) := if_pos hs
  have hkd : isKd (kdK B b k) := by rw [kk]; exact kdT_k _ _
  have k0 : kdK B b k ≠ 0 := fun z => absurd hs ((kdK_0 k).mp z)
  unfold f_X5_keepToken
  rw [h4, if_neg (nI_pos (by omega)), if_pos (show nI k < (400 : Int32) from nI_lt (b := 400) hk (by decide)), if_pos (in_ok hk (by decide)), m_let, cl (by omega), xs_ne (show 1 ≠ 8 by decide), h4, if_pos (in_ok hk (by decide)), m_let, cl (by omega), m_jn]
  dsimp only
  generalize hz : m_xs (m_xs x 8 k (nI (srt (kdK B b k)))) 9 k (nI (tkS B b k)) = z
  have zq : ∀ q c, q ≠ 8 → q ≠ 9 → z.1 q c = x.1 q c := fun q c q8 q9 => by rw [← hz, xs_ne q9, xs_ne q8]
  have z2 : z.2 = x.2 := by rw [← hz]; rfl
  have hzB : tpBx B b z := ⟨h.1, by rw [zq 1 0 (by decide) (by decide)]; exact h.2.1, fun i hi => by rw [zq 7 i (by decide) (by decide)]; exact h.2.2 i hi⟩
  have z4 : z.1 1 4 = nI k := by rw [zq 1 4 (by decide) (by decide)]; exact h4
  have fin : ∀ w : Int64, (kdK B b k = 1 → w = lN (vlw B 32 (tkS B b k) (tkL B b k))) → (kdK B b k = 2 → w = lN (vdg B (tkS B b k) (tkL B b k))) → ∃ x1, (if m_in (z.1 1 4) 400 = true then (m_let (m_xl z 10 (z.1 1 4).toNatClampNeg w) fun x5 => (m_let (m_xs x5 1 4 ((x5.1 1 4) + (1 : Int32))) fun x6 => (some x6))) else none) = some x1 ∧ (∀ q c, ¬ ((q = 1 ∧ c = 4) ∨ q = 8 ∨ q = 9) → x1.1 q c = x.1 q c) ∧ x1.2.2 = x.2.2 ∧ x1.1 1 4 = nI (k + 1) ∧ tkX B b x1 (k + 1) := fun w w1 w2 => by
    rw [z4, if_pos (in_ok hk (by decide)), m_let, m_let, cl (by omega)]
    refine ⟨_, rfl, fun q c hq => ?_, ?_, ?_, fun j hj => ?_⟩
    · have e : (m_xl z 10 k w).1 = z.1 := rfl
      by_cases e1 : q = 1
      · subst e1
        rw [xs_ec (by omega), e, zq _ _ (by decide) (by decide)]
      · rw [xs_ne e1, e, zq q c (by omega) (by omega)]
    · show z.2.2 = _
      rw [z2]
    · rw [xs_eq]
      show z.1 1 4 + 1 = _
      rw [z4, nI_1]
    · have e8 : ∀ c, (m_xs (m_xl z 10 k w) 1 4 ((m_xl z 10 k w).1 1 4 + 1)).1 8 c = z.1 8 c := fun c => by rw [xs_ne (by decide)]; rfl
      have e9 : ∀ c, (m_xs (m_xl z 10 k w) 1 4 ((m_xl z 10 k w).1 1 4 + 1)).1 9 c = z.1 9 c := fun c => by rw [xs_ne (by decide)]; rfl
      have e10 : ∀ c, (m_xs (m_xl z 10 k w) 1 4 ((m_xl z 10 k w).1 1 4 + 1)).2.1 10 c = if c = k then w else x.2.1 10 c := fun c => by
        show (m_xl z 10 k w).2.1 10 c = _
        rw [xl_at, z2]
      rw [e8, e9, e10]
      by_cases ej : j = k
      · subst ej
        rw [if_pos rfl]
        refine ⟨k0, ?_, ?_, w1, w2⟩
        · rw [← hz, xs_ne (by decide), xs_eq]
        · rw [← hz, xs_eq]
      · rw [if_neg ej]
        have o := ht j (by omega)
        refine ⟨o.1, ?_, ?_, o.2.2.2⟩
        · rw [← hz, xs_ne (by decide), xs_ec ej]
          exact o.2.1
        · rw [← hz, xs_ec ej, xs_ne (by decide)]
          exact o.2.2.1
  have s := srt_pl _ (isKd_25 hkd) hkd
  by_cases c2 : kdK B b k = 2
  · have t2 := kdT_2 (kk ▸ c2)
    rw [if_pos (s.2.2.mpr c2)]
    unfold f_X5_packed
    have := packed_d hzB eb.2 (dg_tk hs t2.1 t2.2.1) t2.2.2 (by omega) mF 0 (by omega) (by decide)
    rw [nI_0] at this
    rw [show (0 : Int64) = lN (vdg B (tkS B b k) 0) from rfl, this, Option.bind_some]
    exact fin _ (fun z => by omega) (fun _ => rfl)
  · rw [if_neg (fun z => c2 (s.2.2.mp z))]
    unfold f_X5_packed
    by_cases c1 : kdK B b k = 1
    · have t1 := kdT_1 (kk ▸ c1)
      have := packed_n hzB eb.2 (ltr_tk hs t1.1) t1.2 (by omega) mF 0 (by omega) (by decide)
      rw [nI_0] at this
      rw [show (0 : Int64) = lN (vlw B 32 (tkS B b k) 0) from rfl, this, Option.bind_some]
      exact fin _ (fun _ => rfl) (fun z => by omega)
    · obtain ⟨v, hv⟩ := packed_s (i := tkS B b k) hzB 32 96 eb.2 mF 0 0 (by omega) (by decide)
      rw [nI_0] at hv
      rw [hv, Option.bind_some]
      exact fin v (fun z => absurd z c1) (fun z => absurd z c2)
end TD
