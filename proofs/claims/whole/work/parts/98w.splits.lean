/-! ===== the text: the class's split (2) ===== -/
section TE
variable {B : Nat → Nat} {b : Nat} {x x0 : mX}
theorem mcF_e {n k p l : Nat} {sh : List Nat} (h : kdK B b k = 0) : mcF B b (n + 1) k sh p l = if sh = [] then (0, 0, k) else (1, b, k) := by
  cases sh with
  | nil => rw [mcF, if_pos h]
  | cons e t => rw [mcF, if_pos h]
theorem mcF_c {n k p l e : Nat} {t : List Nat} (h : ¬ kdK B b k = 0) : mcF B b (n + 1) k (e :: t) p l = if kdK B b k = e then (if 400 ≤ k then (2, tkS B b k, k) else mcF B b n (k + 1) t p l) else (1, tkS B b k, k) := by
  rw [mcF, if_neg h]
theorem mcF_n {n k p l : Nat} (h : ¬ kdK B b k = 0) : mcF B b (n + 1) k [] p l = if kdK B b k < 20 then (1, tkS B b k, k) else if 400 ≤ k ∨ (kdK B b k = 20 ∧ p = 8) ∨ (kdK B b k = 21 ∧ l = 16) then (2, tkS B b k, k) else mcF B b n (k + 1) (shp (kdK B b k)) (if kdK B b k = 20 then p + 1 else p) (if kdK B b k = 21 then l + 1 else l) := by
  rw [mcF, if_neg h]
/-- the class's split so far -/
def SPX (B : Nat → Nat) (b : Nat) (x0 : mX) (k : Nat) (sh : List Nat) (p l : Nat) (x : mX) : Prop := (∀ q c, ¬ spW q c → x.1 q c = x0.1 q c) ∧ x.1 1 4 = nI k ∧ k ≤ 400 ∧ isSh x.2.2 ∧ (∃ sp, x.1 1 9 = nI sp ∧ sp ≤ (SHL x.2.2).length ∧ (SHL x.2.2).drop sp = sh) ∧ x.1 1 10 = nI p ∧ x.1 1 11 = nI l ∧ p ≤ 8 ∧ l ≤ 16 ∧ tkX B b x k
/-- what a split says -/
def spR (B : Nat → Nat) (b : Nat) (x0 : mX) (R : Nat × Nat × Nat) (o : Option (Int32 × mX)) : Prop := (R.1 = 0 ∧ ∃ x', o = some (0, x') ∧ (∀ q c, ¬ spW q c → x'.1 q c = x0.1 q c) ∧ x'.1 1 4 = nI R.2.2 ∧ R.2.2 ≤ 400 ∧ kdK B b R.2.2 = 0 ∧ tkX B b x' R.2.2) ∨ (R.1 ≠ 0 ∧ R.1 < 6 ∧ R.2.1 ≤ b ∧ ∃ x', o = some (nI R.1, x') ∧ (∀ q c, ¬ spW q c → ¬ (q = 1 ∧ c = 1) → x'.1 q c = x0.1 q c) ∧ x'.1 1 1 = nI R.2.1)
theorem fail_sp {c : Nat} (hc : c ≠ 0) (h6 : c < 6) {pl k : Nat} (hp : pl ≤ b) (hx : ∀ q c, ¬ spW q c → x.1 q c = x0.1 q c) : spR B b x0 (c, pl, k) ((f_X5_failAt (nI c) (nI pl) x).bind fun q => some (q.1, q.2)) := by
  unfold f_X5_failAt
  rw [m_let, Option.bind_some]
  refine Or.inr ⟨hc, h6, hp, _, rfl, fun q c hq hq1 => ?_, xs_eq _ _ _ _⟩
  by_cases e : q = 1
  · subst e
    rw [xs_ec (by omega)]
    exact hx 1 c hq
  · rw [xs_ne e]
    exact hx q c hq
theorem drop_hd {L : List Nat} {sp e : Nat} {t : List Nat} (h : L.drop sp = e :: t) : sp < L.length ∧ L.getD sp 0 = e ∧ L.drop (sp + 1) = t := by
  have hl : sp < L.length := by
    refine Classical.byContradiction fun z => ?_
    rw [List.drop_eq_nil_of_le (by omega)] at h
    cases h
  rw [List.drop_eq_getElem_cons hl] at h
  injection h with h1 h2
  refine ⟨hl, ?_, h2⟩
  rw [List.getD_eq_getElem?_getD, List.getElem?_eq_getElem hl]
  exact h1
theorem drop_nl {L : List Nat} {sp : Nat} (h : L.drop sp = []) : L.length ≤ sp := by
  have := congrArg List.length h
  rw [List.length_drop] at this
  simp at this
  omega
theorem split_L (h : tpBx B b x0) : ∀ n k sh p l (x : mX), SPX B b x0 k sh p l x → 401 - k < n → spR B b x0 (mcF B b n k sh p l) (f_X5_split_L30 n (nI (tkP B b k)) (nI k) x (fun x14 => (if x14.2.2 < 9 then ((f_J0_length_8abf5 x14.2.2).bind fun q15 => (if q15 ≤ (x14.1 1 9) then (some ((0 : Int32), x14)) else ((f_X5_failAt (1 : Int32) (x14.1 1 0) x14).bind fun q16 => (some (q16.1, q16.2))))) else none)))
  | 0, _, _, _, _, _, _, hn => absurd hn (Nat.not_lt_zero _)
  | n + 1, k, sh, p, l, x, hI, hn => by
    obtain ⟨h1, h4, k4, hs, ⟨sp, s1, s2, s3⟩, h10, h11, p8, l16, ht⟩ := id hI
    have b2 := h.1
    have hB : tpBx B b x := tpBx_F h h1
    have Pb := tkP_b (B := B) (b := b) k
    have Sb := tkS_b (B := B) (b := b) k
    have one : ¬ (1 : Int32) = 0 := by decide
    rw [f_X5_split_L30, if_neg (show ¬ (2000 : Int32) < nI k from nI_nlt (a := 2000) (by omega) (by decide)), afterBlanks_x hB Pb, Option.bind_some, hB.2.1, nI_1]
    show spR B b x0 (mcF B b (n + 1) k sh p l) (if nI (tkS B b k) < nI b then _ else _)
    by_cases c0 : tkS B b k < b
    · have k0 : ¬ kdK B b k = 0 := fun z => absurd c0 ((kdK_0 k).mp z)
      have kk : kdK B b k = kdT B (tkS B b k) (tkE B b (tkS B b k)) := if_pos c0
      have hkd : isKd (kdK B b k) := by rw [kk]; exact kdT_k _ _
      have eb := tkE_b (B := B) c0
      rw [if_pos (nI_lt c0 (by omega))]
      show spR B b x0 (mcF B b (n + 1) k sh p l) ((f_X5_tokenEnd (nI (tkS B b k)) x).bind _)
      rw [tokenEnd_x hB c0, Option.bind_some]
      show spR B b x0 (mcF B b (n + 1) k sh p l) ((f_X5_sortOf (nI (tkS B b k)) (nI (tkE B b (tkS B b k))) x).bind _)
      rw [sortOf_x hB c0 eb.1 eb.2, Option.bind_some, ← kk]
      -- what follows a token that goes on
      have on : ∀ (x1 : mX) (sh' : List Nat), (∀ q c, ¬ spW q c → x1.1 q c = x0.1 q c) → x1.1 1 4 = nI k → isSh x1.2.2 → (∃ sp, x1.1 1 9 = nI sp ∧ sp ≤ (SHL x1.2.2).length ∧ (SHL x1.2.2).drop sp = sh') → x1.1 1 10 = nI p → x1.1 1 11 = nI l → tkX B b x1 k → ∀ C : Prop, (C ↔ (400 ≤ k ∨ (kdK B b k = 20 ∧ 8 ≤ p) ∨ (kdK B b k ≠ 20 ∧ 8 < p) ∨ (kdK B b k = 21 ∧ 16 ≤ l) ∨ (kdK B b k ≠ 21 ∧ 16 < l))) → spR B b x0 (@ite _ C (Classical.propDecidable _) (2, tkS B b k, k) (mcF B b n (k + 1) sh' (if kdK B b k = 20 then p + 1 else p) (if kdK B b k = 21 then l + 1 else l))) ((f_X5_fits (nI (srt (kdK B b k))) x1).bind fun q11 => (if q11.1 = 0 then ((f_X5_failAt (2 : Int32) (nI (tkS B b k)) q11.2).bind fun q12 => (some (q12.1, q12.2))) else ((f_X5_keepToken (nI (srt (kdK B b k))) (nI (tkS B b k)) (nI (tkE B b (tkS B b k))) q11.2).bind fun q13 => (f_X5_split_L30 n (nI (tkE B b (tkS B b k))) (nI (k + 1)) q13 (fun x14 => (if x14.2.2 < 9 then ((f_J0_length_8abf5 x14.2.2).bind fun q15 => (if q15 ≤ (x14.1 1 9) then (some ((0 : Int32), x14)) else ((f_X5_failAt (1 : Int32) (x14.1 1 0) x14).bind fun q16 => (some (q16.1, q16.2))))) else none)))))) := by
        intro x1 sh' g1 g4 gs gsp g10 g11 gt C hC
        obtain ⟨x2, e2, w2, w10, w11⟩ := fits_x hkd g4 g10 g11 (by omega) (by omega) (by omega)
        have f2 : ∀ q c, ¬ spW q c → x2.1 q c = x0.1 q c := fun q c hq => by
          rw [w2.1 q c (by unfold spW at hq; omega)]
          exact g1 q c hq
        rw [e2, Option.bind_some]
        dsimp only
        by_cases c : C
        · rw [if_pos c, if_pos (hC.mp c), if_pos rfl]
          exact fail_sp (c := 2) (by decide) (by decide) (by omega) f2
        · have nc : ¬ (400 ≤ k ∨ (kdK B b k = 20 ∧ 8 ≤ p) ∨ (kdK B b k ≠ 20 ∧ 8 < p) ∨ (kdK B b k = 21 ∧ 16 ≤ l) ∨ (kdK B b k ≠ 21 ∧ 16 < l)) := fun z => c (hC.mpr z)
          have k400 : k < 400 := by omega
          rw [if_neg c, if_neg nc, if_neg one]
          have x2q : ∀ q c, ¬ (q = 1 ∧ (c = 10 ∨ c = 11)) → x2.1 q c = x1.1 q c := fun q c hq => w2.1 q c hq
          obtain ⟨x3, e3, w3, v3, a3, t3⟩ := keep_tok (x := x2) (k := k) (tpBx_F h f2) (by rw [x2q 1 4 (by omega)]; exact g4) (by omega) c0 (fun j hj => by
            rw [x2q 8 j (by omega), x2q 9 j (by omega), w2.2]
            exact gt j hj)
          rw [e3, Option.bind_some, ← tkP_s c0]
          obtain ⟨sp', u1, u2, u3⟩ := gsp
          have e22 : x3.2.2 = x1.2.2 := by rw [v3, w2.2]
          refine split_L h n (k + 1) sh' _ _ x3 ⟨fun q c hq => ?_, a3, by omega, by rw [e22]; exact gs, ⟨sp', ?_, by rw [e22]; exact u2, by rw [e22]; exact u3⟩, ?_, ?_, ?_, ?_, t3⟩ (by omega)
          · rw [w3 q c (by unfold spW at hq; omega)]
            exact f2 q c hq
          · rw [w3 1 9 (by omega), x2q 1 9 (by omega)]
            exact u1
          · rw [w3 1 10 (by omega)]
            exact w10
          · rw [w3 1 11 (by omega)]
            exact w11
          · split <;> omega
          · split <;> omega
      cases sh with
      | cons e sh' =>
        obtain ⟨d1, d2, d3⟩ := drop_hd s3
        rw [mcF_c k0, goesOn_c hkd hs s1 d1, Option.bind_some, d2]
        dsimp only
        have fx : ∀ q c, ¬ spW q c → (m_xs x 1 9 (nI (sp + 1))).1 q c = x0.1 q c := fun q c hq => by
          by_cases e1 : q = 1
          · subst e1
            rw [xs_ec (by unfold spW at hq; omega)]
            exact h1 1 c hq
          · rw [xs_ne e1]
            exact h1 q c hq
        by_cases ce : kdK B b k = e
        · have a := SH_at _ (isSh_9 hs) hs sp d1
          rw [d2] at a
          have n20 : kdK B b k ≠ 20 ∧ kdK B b k ≠ 21 := ⟨by omega, by omega⟩
          rw [if_pos ce, if_pos ce, if_neg one]
          have t := on (m_xs x 1 9 (nI (sp + 1))) sh' fx (by rw [xs_ec (by decide)]; exact h4) hs ⟨sp + 1, xs_eq _ _ _ _, d1, d3⟩ (by rw [xs_ec (by decide)]; exact h10) (by rw [xs_ec (by decide)]; exact h11) (fun j hj => by rw [xs_ne (by decide), xs_ne (by decide)]; exact ht j hj) (400 ≤ k) ⟨Or.inl, fun z => by omega⟩
          rw [if_neg n20.1, if_neg n20.2] at t
          by_cases c4 : 400 ≤ k
          · rw [if_pos c4] at t ⊢
            exact t
          · rw [if_neg c4] at t ⊢
            exact t
        · rw [if_neg ce, if_neg ce, if_pos rfl]
          exact fail_sp (c := 1) (by decide) (by decide) (by omega) fx
      | nil =>
        have d1 := drop_nl s3
        have l4 := (SH_len _ (isSh_9 hs) hs).2
        obtain ⟨q1, q2, q3, q4, q5⟩ := srt_s _ (isKd_25 hkd) hkd
        rw [mcF_n k0, goesOn_n hkd hs s1 d1 (by omega), Option.bind_some]
        dsimp only
        have fx : ∀ q c, ¬ spW q c → (m_xs (m_xt x (tno (kdK B b k))) 1 9 0).1 q c = x0.1 q c := fun q c hq => by
          by_cases e1 : q = 1
          · subst e1
            rw [xs_ec (by unfold spW at hq; omega)]
            exact h1 1 c hq
          · rw [xs_ne e1]
            exact h1 q c hq
        by_cases c20 : kdK B b k < 20
        · rw [if_pos c20, if_neg (show ¬ 20 ≤ kdK B b k from Nat.not_le.mpr c20), if_pos rfl]
          exact fail_sp (c := 1) (by decide) (by decide) (by omega) fx
        · rw [if_neg c20, if_pos (show 20 ≤ kdK B b k by omega), if_neg one]
          have t := on (m_xs (m_xt x (tno (kdK B b k))) 1 9 0) (shp (kdK B b k)) fx (by rw [xs_ec (by decide)]; exact h4) q3 ⟨0, xs_eq _ _ _ _, Nat.zero_le _, q2⟩ (by rw [xs_ec (by decide)]; exact h10) (by rw [xs_ec (by decide)]; exact h11) (fun j hj => by rw [xs_ne (by decide), xs_ne (by decide)]; exact ht j hj) (400 ≤ k ∨ (kdK B b k = 20 ∧ p = 8) ∨ (kdK B b k = 21 ∧ l = 16)) ⟨fun z => by omega, fun z => by omega⟩
          by_cases c4 : 400 ≤ k ∨ (kdK B b k = 20 ∧ p = 8) ∨ (kdK B b k = 21 ∧ l = 16)
          · rw [if_pos c4] at t ⊢
            exact t
          · rw [if_neg c4] at t ⊢
            exact t
    · have k0 : kdK B b k = 0 := (kdK_0 k).mpr c0
      have l4 := SH_len _ (isSh_9 hs) hs
      rw [if_neg (nI_nlt (by omega) (by omega)), if_pos (isSh_9 hs), l4.1, Option.bind_some, s1, mcF_e k0]
      by_cases ce : sh = []
      · subst ce
        have d1 := drop_nl s3
        rw [if_pos rfl, if_pos (nI_le d1 (by omega))]
        exact Or.inl ⟨rfl, x, rfl, h1, h4, k4, k0, ht⟩
      · have d1 : sp < (SHL x.2.2).length := Classical.byContradiction fun z => ce (by rw [← s3]; exact List.drop_eq_nil_of_le (by omega))
        rw [if_neg ce, if_neg (nI_ge d1 (by omega))]
        exact fail_sp (c := 1) (by decide) (by decide) (Nat.le_refl _) h1
theorem split_x (h : tpBx B b x) : spR B b x (mcF B b mF 0 [] 0 0) (f_X5_split x) := by
  unfold f_X5_split
  rw [m_let, m_let, m_let, m_let, m_let]
  refine split_L h mF 0 [] 0 0 _ ⟨fun q c hq => ?_, ?_, by decide, Or.inl rfl, ⟨0, ?_, Nat.zero_le _, rfl⟩, ?_, ?_, by decide, by decide, fun j hj => by omega⟩ (by decide)
  · unfold spW at hq
    by_cases e1 : q = 1
    · subst e1
      rw [xs_ec (by omega), xs_ec (by omega), xs_ec (by omega)]
      show (m_xs x 1 4 0).1 1 c = _
      rw [xs_ec (by omega)]
    · rw [xs_ne e1, xs_ne e1, xs_ne e1]
      show (m_xs x 1 4 0).1 q c = _
      rw [xs_ne e1]
  · rw [xs_ec (by decide), xs_ec (by decide), xs_ec (by decide)]
    show (m_xs x 1 4 0).1 1 4 = _
    rw [xs_eq]
    rfl
  · rw [xs_ec (by decide), xs_ec (by decide), xs_eq]
    rfl
  · rw [xs_ec (by decide), xs_eq]
    rfl
  · rw [xs_eq]
    rfl
end TE
