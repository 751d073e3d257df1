/-! ===== the text: its lines; the class's steps ===== -/
section TC
variable {B : Nat → Nat} {b : Nat} {x : mX}
/-- the kind of the k-th token; 0 at the end -/
def kdK (B : Nat → Nat) (b k : Nat) : Nat := if tkS B b k < b then kdT B (tkS B b k) (tkE B b (tkS B b k)) else 0
def isKd (k : Nat) : Prop := k = 1 ∨ k = 2 ∨ k = 3 ∨ k = 4 ∨ k = 20 ∨ k = 21 ∨ k = 22 ∨ k = 23 ∨ k = 24
theorem kdT_k (i e : Nat) : isKd (kdT B i e) := by
  unfold kdT isKd
  split
  · split
    · omega
    · rcases kdW_v (wrd B i (e - i)) with k | ⟨q, q1, q2, _⟩
      · omega
      · omega
  · split
    · split <;> omega
    · split <;> omega
theorem kdK_0 (k : Nat) : kdK B b k = 0 ↔ ¬ tkS B b k < b := by
  unfold kdK
  by_cases c : tkS B b k < b
  · rw [if_pos c]
    have := kdT_k (B := B) (tkS B b k) (tkE B b (tkS B b k))
    unfold isKd at this
    exact ⟨fun z => by omega, fun z => absurd c z⟩
  · rw [if_neg c]
    exact ⟨fun _ => c, fun _ => rfl⟩
def shp (k : Nat) : List Nat := if k = 21 then [1, 1, 2, 4] else if k = 24 then [1, 1, 4] else if k = 20 ∨ k = 22 ∨ k = 23 then [1, 4] else []
/-- which fault, where, at which token; 0: none, so many tokens -/
def mcF (B : Nat → Nat) (b : Nat) : Nat → Nat → List Nat → Nat → Nat → Nat × Nat × Nat
  | 0, k, _, _, _ => (0, 0, k)
  | n + 1, k, sh, p, l => if kdK B b k = 0 then (if sh = [] then (0, 0, k) else (1, b, k)) else match sh with
    | e :: sh' => if kdK B b k = e then (if 400 ≤ k then (2, tkS B b k, k) else mcF B b n (k + 1) sh' p l) else (1, tkS B b k, k)
    | [] => if kdK B b k < 20 then (1, tkS B b k, k) else if 400 ≤ k ∨ (kdK B b k = 20 ∧ p = 8) ∨ (kdK B b k = 21 ∧ l = 16) then (2, tkS B b k, k) else mcF B b n (k + 1) (shp (kdK B b k)) (if kdK B b k = 20 then p + 1 else p) (if kdK B b k = 21 then l + 1 else l)
/-- the class's texts of shapes -/
def SHL (t : Nat) : List Nat := if t = 6 then [1, 4] else if t = 7 then [1, 1, 2, 4] else if t = 8 then [1, 1, 4] else []
def isSh (t : Nat) : Prop := t = 0 ∨ t = 6 ∨ t = 7 ∨ t = 8
def tno (k : Nat) : Nat := if k = 21 then 7 else if k = 24 then 8 else if k = 20 ∨ k = 22 ∨ k = 23 then 6 else 0
theorem SH_len : ∀ t, t < 9 → isSh t → f_J0_length_8abf5 t = some (nI (SHL t).length) ∧ (SHL t).length ≤ 4 := by unfold isSh; decide +kernel
theorem SH_at : ∀ t, t < 9 → isSh t → ∀ s, s < (SHL t).length → f_J0_charAt_5068e t (nI s) = some (nI (srt ((SHL t).getD s 0))) ∧ (SHL t).getD s 0 < 5 ∧ (SHL t).getD s 0 ≠ 3 ∧ (SHL t).getD s 0 ≠ 0 := by unfold isSh; decide +kernel
theorem srt_i0 : ∀ k, k < 25 → isKd k → ∀ e, e < 5 → (e = 3 ∨ e = 0 ∨ decide (nI (srt e) = nI (srt k)) = decide (k = e)) := by unfold isKd; decide +kernel
theorem srt_i (k : Nat) (h1 : k < 25) (h2 : isKd k) (e : Nat) (h3 : e < 5) (h4 : e ≠ 3) (h5 : e ≠ 0) : nI (srt e) = nI (srt k) ↔ k = e := by
  rcases srt_i0 k h1 h2 e h3 with z | z | z
  · exact absurd z h4
  · exact absurd z h5
  · exact decide_eq_decide.mp z
theorem srt_s : ∀ k, k < 25 → isKd k → f_X5_shapeOf (nI (srt k)) = some (tno k) ∧ SHL (tno k) = shp k ∧ isSh (tno k) ∧ tno k < 9 ∧ (20 ≤ k ↔ shp k ≠ []) := by unfold isKd isSh; decide +kernel
theorem SH_em : ∀ t, t < 9 → isSh t → f_J0_isEmpty_aae02 t = some (if SHL t = [] then 1 else 0) := by unfold isSh; decide +kernel
theorem isKd_25 {k : Nat} (h : isKd k) : k < 25 := by unfold isKd at h; omega
theorem isSh_9 {t : Nat} (h : isSh t) : t < 9 := by unfold isSh at h; omega
theorem goesOn_c {k sp : Nat} (hk : isKd k) (hs : isSh x.2.2) (h9 : x.1 1 9 = nI sp) (hsp : sp < (SHL x.2.2).length) : f_X5_goesOn (nI (srt k)) x = some (if k = (SHL x.2.2).getD sp 0 then 1 else 0, m_xs x 1 9 (nI (sp + 1))) := by
  have t9 := isSh_9 hs
  have l4 := SH_len _ t9 hs
  have a := SH_at _ t9 hs sp hsp
  unfold f_X5_goesOn
  rw [if_pos t9, l4.1, Option.bind_some, h9, if_neg (nI_ge hsp (by omega)), if_pos t9, a.1, Option.bind_some, m_jn]
  dsimp only
  have c := srt_i k (isKd_25 hk) hk _ a.2.1 a.2.2.1 a.2.2.2
  by_cases d : k = (SHL x.2.2).getD sp 0
  · rw [if_pos (c.mpr d), if_pos d, m_let, if_pos (by decide), nI_1]
  · rw [if_neg (fun z => d (c.mp z)), if_neg d, m_let, if_pos (by decide), nI_1]
theorem goesOn_n {k sp : Nat} (hk : isKd k) (hs : isSh x.2.2) (h9 : x.1 1 9 = nI sp) (hsp : (SHL x.2.2).length ≤ sp) (hsm : sp < 100) : f_X5_goesOn (nI (srt k)) x = some (if 20 ≤ k then 1 else 0, m_xs (m_xt x (tno k)) 1 9 0) := by
  have t9 := isSh_9 hs
  have l4 := SH_len _ t9 hs
  obtain ⟨s1, s2, s3, s4, s5⟩ := srt_s k (isKd_25 hk) hk
  unfold f_X5_goesOn
  rw [if_pos t9, l4.1, Option.bind_some, h9, if_pos (nI_le hsp (by omega)), s1, Option.bind_some, m_let, m_let]
  show (if tno k < 9 then _ else _) = _
  rw [if_pos s4]
  show ((f_J0_isEmpty_aae02 (tno k)).bind _) = _
  rw [SH_em _ s4 s3, Option.bind_some, s2]
  by_cases c : 20 ≤ k
  · rw [if_neg (s5.mp c), if_pos rfl, if_pos c]
  · rw [if_pos (Classical.byContradiction fun z => c (s5.mpr z)), if_neg (by decide), if_neg c]
theorem srt_pl : ∀ k, k < 25 → isKd k → (nI (srt k) = 112 ↔ k = 20) ∧ (nI (srt k) = 108 ↔ k = 21) ∧ (nI (srt k) = 105 ↔ k = 2) := by unfold isKd; decide +kernel
/-- room for a token -/
theorem fits_x {k t p l : Nat} (hk : isKd k) (h4 : x.1 1 4 = nI t) (h10 : x.1 1 10 = nI p) (h11 : x.1 1 11 = nI l) (ht : t < 5000) (hp : p < 100) (hl : l < 100) : ∃ x1, f_X5_fits (nI (srt k)) x = some (if 400 ≤ t ∨ (k = 20 ∧ 8 ≤ p) ∨ (k ≠ 20 ∧ 8 < p) ∨ (k = 21 ∧ 16 ≤ l) ∨ (k ≠ 21 ∧ 16 < l) then 0 else 1, x1) ∧ xF (fun q c => q = 1 ∧ (c = 10 ∨ c = 11)) x x1 ∧ x1.1 1 10 = nI (if k = 20 then p + 1 else p) ∧ x1.1 1 11 = nI (if k = 21 then l + 1 else l) := by
  have s := srt_pl k (isKd_25 hk) hk
  unfold f_X5_fits
  rw [m_jn]
  dsimp only
  have tail : ∀ (z : mX) (p' l' : Nat), z.1 1 4 = nI t → z.1 1 10 = nI p' → z.1 1 11 = nI l' → p' < 200 → l' < 200 → (if (400 : Int32) ≤ (z.1 1 4) then (some ((0 : Int32), z)) else (if (8 : Int32) < (z.1 1 10) then (some ((0 : Int32), z)) else (if (16 : Int32) < (z.1 1 11) then (some ((0 : Int32), z)) else (some ((1 : Int32), z))))) = some (if 400 ≤ t ∨ 8 < p' ∨ 16 < l' then 0 else 1, z) := fun z p' l' z4 z10 z11 pb lb => by
    rw [z4, z10, z11]
    by_cases c1 : 400 ≤ t
    · rw [if_pos (show (400 : Int32) ≤ nI t from nI_le (a := 400) c1 (by omega)), if_pos (Or.inl c1)]
    rw [if_neg (show ¬ (400 : Int32) ≤ nI t from nI_ge (b := 400) (by omega) (by decide))]
    by_cases c2 : 8 < p'
    · rw [if_pos (show (8 : Int32) < nI p' from nI_lt (a := 8) c2 (by omega)), if_pos (Or.inr (Or.inl c2))]
    rw [if_neg (show ¬ (8 : Int32) < nI p' from nI_nlt (a := 8) (by omega) (by decide))]
    by_cases c3 : 16 < l'
    · rw [if_pos (show (16 : Int32) < nI l' from nI_lt (a := 16) c3 (by omega)), if_pos (Or.inr (Or.inr c3))]
    rw [if_neg (show ¬ (16 : Int32) < nI l' from nI_nlt (a := 16) (by omega) (by decide)), if_neg (by omega)]
  by_cases c20 : k = 20
  · have n21 : ¬ k = 21 := by omega
    rw [if_pos (s.1.mpr c20), m_let, m_jn]
    dsimp only
    rw [if_neg (fun z => n21 (s.2.1.mp z)), tail _ (p + 1) l (by rw [xs_ec (by decide)]; exact h4) (by rw [xs_eq, h10, nI_1]) (by rw [xs_ec (by decide)]; exact h11) (by omega) (by omega)]
    refine ⟨m_xs x 1 10 (x.1 1 10 + 1), ?_, xF_set (xF_rf _ _) ⟨rfl, Or.inl rfl⟩, by rw [xs_eq, h10, nI_1, if_pos c20], by rw [xs_ec (by decide), h11, if_neg n21]⟩
    by_cases c : 400 ≤ t ∨ 8 < p + 1 ∨ 16 < l
    · rw [if_pos c, if_pos (by omega)]
    · rw [if_neg c, if_neg (by omega)]
  · rw [if_neg (fun z => c20 (s.1.mp z)), m_jn]
    dsimp only
    by_cases c21 : k = 21
    · rw [if_pos (s.2.1.mpr c21), m_let, tail _ p (l + 1) (by rw [xs_ec (by decide)]; exact h4) (by rw [xs_ec (by decide)]; exact h10) (by rw [xs_eq, h11, nI_1]) (by omega) (by omega)]
      refine ⟨m_xs x 1 11 (x.1 1 11 + 1), ?_, xF_set (xF_rf _ _) ⟨rfl, Or.inr rfl⟩, by rw [xs_ec (by decide), h10, if_neg c20], by rw [xs_eq, h11, nI_1, if_pos c21]⟩
      by_cases c : 400 ≤ t ∨ 8 < p ∨ 16 < l + 1
      · rw [if_pos c, if_pos (by omega)]
      · rw [if_neg c, if_neg (by omega)]
    · rw [if_neg (fun z => c21 (s.2.1.mp z)), tail _ p l h4 h10 h11 (by omega) (by omega)]
      refine ⟨x, ?_, xF_rf _ _, by rw [h10, if_neg c20], by rw [h11, if_neg c21]⟩
      by_cases c : 400 ≤ t ∨ 8 < p ∨ 16 < l
      · rw [if_pos c, if_pos (by omega)]
      · rw [if_neg c, if_neg (by omega)]
end TC
