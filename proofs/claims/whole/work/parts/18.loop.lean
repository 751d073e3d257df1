/-! ===== the law's loop, over an invariant of the two memories ===== -/
/-- one call on each: the same answer, and the invariant stays -/
def m_Step (Inv : mX → mY → Prop) : Prop := ∀ op, op < 35 → ∀ (s1 s2 s3 s4 s5 : Int32) (x : mX) (y : mY), Inv x y → ∃ (r : Int32) (x2 : mX) (y2 : mY), m_callX op s1 s2 s3 s4 s5 x = some (r, x2) ∧ m_callY op s1 s2 s3 s4 s5 y = some (r, y2) ∧ Inv x2 y2
theorem m_ofN {n : Nat} (h : n < 2 ^ 31) : (Int32.ofNat n).toInt = (n : Int) := by
  have := Int32.toInt_ofNat_of_lt (n := n) (by omega)
  exact this
theorem m_ofN_add {n k : Nat} : Int32.ofNat n + Int32.ofNat k = Int32.ofNat (n + k) := (Int32.ofNat_add n k).symm
theorem m_inN {n L : Nat} (h : n < L) (hL : L ≤ 3072) : m_in (Int32.ofNat n) L = true := by
  have e := m_ofN (n := n) (by omega)
  unfold m_in
  have h1 : ¬ Int32.ofNat n < 0 := by
    rw [Int32.lt_iff_toInt_lt, e]
    show ¬ (n : Int) < 0
    omega
  have h2 : (Int32.ofNat n).toNatClampNeg = n := by
    show (Int32.ofNat n).toInt.toNat = n
    rw [e]; rfl
  rw [decide_eq_true h1, h2, decide_eq_true h]
  rfl
theorem m_gtN {i L : Nat} (hi : i ≤ 4000) (hL : L ≤ 3072) : (Int32.ofNat L - 6 < Int32.ofNat i) ↔ L < i + 6 := by
  rw [Int32.lt_iff_toInt_lt, Int32.toInt_sub, m_ofN (by omega), m_ofN (by omega)]
  show ((L : Int) - 6).bmod (2 ^ 32) < (i : Int) ↔ _
  rw [Int.bmod_eq_of_le (by omega) (by omega)]
  omega
section MW
variable {fm : Value} {L : Nat} {xs : Nat → Int32}
set_option maxRecDepth 20000 in
set_option maxHeartbeats 2000000 in
theorem law_loop (hfm : fm = .null ∨ fm = .ref (mBIG + 200)) (hL : L ≤ 3072) {Inv : mX → mY → Prop} (hst : m_Step Inv) : ∀ (n i : Nat) (x : mX) (y : mY), L ≤ i + n → i ≤ L → Inv x y → ∃ xf yf, mS fm L xs m_gl pg_L_law 18 [.ref (mBIG + 100), .ref 0, .ref 279, .int (Int32.ofNat i)] [] (mk x y) (some (xf, yf)) := by
  intro n
  induction n with
  | zero =>
    intro i x y h1 h2 _
    refine ⟨x, y, ?_⟩
    refine mS_steps (pc' := 20) (ls' := [.ref (mBIG + 100), .ref 0, .ref 279, .int (Int32.ofNat i)]) (st' := [.ref (mBIG + 100), .int (Int32.ofNat i)]) (mem' := mk x y) 2 rfl ?_
    refine mS_slen rfl ?_
    refine mS_steps (pc' := 24) (ls' := [.ref (mBIG + 100), .ref 0, .ref 279, .int (Int32.ofNat i)]) (st' := [.int (Int32.ofNat L - 6), .int (Int32.ofNat i)]) (mem' := mk x y) 2 rfl ?_
    refine mS_one (pc' := 1351) (ls' := [.ref (mBIG + 100), .ref 0, .ref 279, .int (Int32.ofNat i)]) (st' := []) (mem' := mk x y) rfl (by decide) (by show some (bif decide (Int32.ofNat L - 6 < Int32.ofNat i) then _ else _, _, _, _) = _; rw [decide_eq_true ((m_gtN (by omega) hL).mpr (by omega))]; rfl) ?_
    refine mS_steps (pc' := 1352) (ls' := [.ref (mBIG + 100), .ref 0, .ref 279, .int (Int32.ofNat i)]) (st' := [.int 1]) (mem' := mk x y) 1 rfl ?_
    exact mS_reti ⟨_, _, _, _, _, rfl, (by decide)⟩ rfl
  | succ n ih =>
    intro i x y h1 h2 hI
    by_cases hend : L < i + 6
    · refine ⟨x, y, ?_⟩
      refine mS_steps (pc' := 20) (ls' := [.ref (mBIG + 100), .ref 0, .ref 279, .int (Int32.ofNat i)]) (st' := [.ref (mBIG + 100), .int (Int32.ofNat i)]) (mem' := mk x y) 2 rfl ?_
      refine mS_slen rfl ?_
      refine mS_steps (pc' := 24) (ls' := [.ref (mBIG + 100), .ref 0, .ref 279, .int (Int32.ofNat i)]) (st' := [.int (Int32.ofNat L - 6), .int (Int32.ofNat i)]) (mem' := mk x y) 2 rfl ?_
      refine mS_one (pc' := 1351) (ls' := [.ref (mBIG + 100), .ref 0, .ref 279, .int (Int32.ofNat i)]) (st' := []) (mem' := mk x y) rfl (by decide) (by show some (bif decide (Int32.ofNat L - 6 < Int32.ofNat i) then _ else _, _, _, _) = _; rw [decide_eq_true ((m_gtN (by omega) hL).mpr hend)]; rfl) ?_
      refine mS_steps (pc' := 1352) (ls' := [.ref (mBIG + 100), .ref 0, .ref 279, .int (Int32.ofNat i)]) (st' := [.int 1]) (mem' := mk x y) 1 rfl ?_
      exact mS_reti ⟨_, _, _, _, _, rfl, (by decide)⟩ rfl
    -- a call
    have head : ∀ {A : Option (mX × mY)}, mS fm L xs m_gl pg_L_law 33 [.ref (mBIG + 100), .ref 0, .ref 279, .int (Int32.ofNat i)] [.int (xs i &&& 63)] (mk x y) A → mS fm L xs m_gl pg_L_law 18 [.ref (mBIG + 100), .ref 0, .ref 279, .int (Int32.ofNat i)] [] (mk x y) A := by
      intro A k
      refine mS_steps (pc' := 20) (ls' := [.ref (mBIG + 100), .ref 0, .ref 279, .int (Int32.ofNat i)]) (st' := [.ref (mBIG + 100), .int (Int32.ofNat i)]) (mem' := mk x y) 2 rfl ?_
      refine mS_slen rfl ?_
      refine mS_steps (pc' := 24) (ls' := [.ref (mBIG + 100), .ref 0, .ref 279, .int (Int32.ofNat i)]) (st' := [.int (Int32.ofNat L - 6), .int (Int32.ofNat i)]) (mem' := mk x y) 2 rfl ?_
      refine mS_one (pc' := 27) (ls' := [.ref (mBIG + 100), .ref 0, .ref 279, .int (Int32.ofNat i)]) (st' := []) (mem' := mk x y) rfl (by decide) (by show some (bif decide (Int32.ofNat L - 6 < Int32.ofNat i) then _ else _, _, _, _) = _; rw [decide_eq_false (fun z => hend ((m_gtN (by omega) hL).mp z))]; rfl) ?_
      refine mS_steps (pc' := 29) (ls' := [.ref (mBIG + 100), .ref 0, .ref 279, .int (Int32.ofNat i)]) (st' := [.int (Int32.ofNat i), .ref (mBIG + 100)]) (mem' := mk x y) 2 rfl ?_
      refine mS_sld (z := xs i) rfl (m_inN (by omega) hL) (by show xs (Int32.ofNat i).toInt.toNat = _; rw [m_ofN (by omega)]; rfl) ?_
      refine mS_steps (pc' := 33) (ls' := [.ref (mBIG + 100), .ref 0, .ref 279, .int (Int32.ofNat i)]) (st' := [.int (xs i &&& 63)]) (mem' := mk x y) 2 rfl ?_
      exact k
    have tail : ∀ {A : Option (mX × mY)} {x2 : mX} {y2 : mY}, mS fm L xs m_gl pg_L_law 18 [.ref (mBIG + 100), .ref 0, .ref 279, .int (Int32.ofNat (i + 6))] [] (mk x2 y2) A → mS fm L xs m_gl pg_L_law 1345 [.ref (mBIG + 100), .ref 0, .ref 279, .int (Int32.ofNat i)] [] (mk x2 y2) A := by
      intro A x2 y2 k
      refine mS_steps (pc' := 18) (ls' := [.ref (mBIG + 100), .ref 0, .ref 279, .int (Int32.ofNat i + 6)]) (st' := []) (mem' := mk x2 y2) 2 rfl ?_
      rw [show Int32.ofNat i + 6 = Int32.ofNat (i + 6) from m_ofN_add]
      exact k
    have hin : ∀ j : Nat, j < 6 → m_in (Int32.ofNat i + Int32.ofNat j) L = true := fun j hj => by rw [m_ofN_add]; exact m_inN (by omega) hL
    by_cases hc : 0 ≤ (xs i &&& 63).toInt ∧ (xs i &&& 63).toInt < 35
    · obtain ⟨c, hcc⟩ : ∃ c : Nat, (xs i &&& 63).toInt = (c : Int) := ⟨(xs i &&& 63).toInt.toNat, by omega⟩
      have hc35 : c < 35 := by omega
      obtain ⟨r, x2, y2, hx, hy, hI2⟩ := hst c hc35 (xs (Int32.ofNat i + 1).toNatClampNeg) (xs (Int32.ofNat i + 2).toNatClampNeg) (xs (Int32.ofNat i + 3).toNatClampNeg) (xs (Int32.ofNat i + 4).toNatClampNeg) (xs (Int32.ofNat i + 5).toNatClampNeg) x y hI
      obtain ⟨xf, yf, hf⟩ := ih (i + 6) x2 y2 (by omega) (by omega) hI2
      refine ⟨xf, yf, head ?_⟩
      have hk := tail hf
      match c, hc35, hcc, hx, hy with
      | 0, _, hcc, hx, hy => exact mS_tsw (i := 0) (t := 188) rfl (by rw [hcc]; rfl) rfl (law_c0 hfm (hin 1 (by decide)) rfl (hin 2 (by decide)) rfl (hin 3 (by decide)) rfl (hin 4 (by decide)) rfl (hin 5 (by decide)) rfl hx hy hk)
      | 1, _, hcc, hx, hy => exact mS_tsw (i := 1) (t := 251) rfl (by rw [hcc]; rfl) rfl (law_c1 hfm (hin 1 (by decide)) rfl (hin 2 (by decide)) rfl (hin 3 (by decide)) rfl (hin 4 (by decide)) rfl (hin 5 (by decide)) rfl hx hy hk)
      | 2, _, hcc, hx, hy => exact mS_tsw (i := 2) (t := 274) rfl (by rw [hcc]; rfl) rfl (law_c2 hfm (hin 1 (by decide)) rfl (hin 2 (by decide)) rfl (hin 3 (by decide)) rfl (hin 4 (by decide)) rfl (hin 5 (by decide)) rfl hx hy hk)
      | 3, _, hcc, hx, hy => exact mS_tsw (i := 3) (t := 287) rfl (by rw [hcc]; rfl) rfl (law_c3 hfm (hin 1 (by decide)) rfl (hin 2 (by decide)) rfl (hin 3 (by decide)) rfl (hin 4 (by decide)) rfl (hin 5 (by decide)) rfl hx hy hk)
      | 4, _, hcc, hx, hy => exact mS_tsw (i := 4) (t := 300) rfl (by rw [hcc]; rfl) rfl (law_c4 hfm (hin 1 (by decide)) rfl (hin 2 (by decide)) rfl (hin 3 (by decide)) rfl (hin 4 (by decide)) rfl (hin 5 (by decide)) rfl hx hy hk)
      | 5, _, hcc, hx, hy => exact mS_tsw (i := 5) (t := 349) rfl (by rw [hcc]; rfl) rfl (law_c5 hfm (hin 1 (by decide)) rfl (hin 2 (by decide)) rfl (hin 3 (by decide)) rfl (hin 4 (by decide)) rfl (hin 5 (by decide)) rfl hx hy hk)
      | 6, _, hcc, hx, hy => exact mS_tsw (i := 6) (t := 382) rfl (by rw [hcc]; rfl) rfl (law_c6 hfm (hin 1 (by decide)) rfl (hin 2 (by decide)) rfl (hin 3 (by decide)) rfl (hin 4 (by decide)) rfl (hin 5 (by decide)) rfl hx hy hk)
      | 7, _, hcc, hx, hy => exact mS_tsw (i := 7) (t := 431) rfl (by rw [hcc]; rfl) rfl (law_c7 hfm (hin 1 (by decide)) rfl (hin 2 (by decide)) rfl (hin 3 (by decide)) rfl (hin 4 (by decide)) rfl (hin 5 (by decide)) rfl hx hy hk)
      | 8, _, hcc, hx, hy => exact mS_tsw (i := 8) (t := 474) rfl (by rw [hcc]; rfl) rfl (law_c8 hfm (hin 1 (by decide)) rfl (hin 2 (by decide)) rfl (hin 3 (by decide)) rfl (hin 4 (by decide)) rfl (hin 5 (by decide)) rfl hx hy hk)
      | 9, _, hcc, hx, hy => exact mS_tsw (i := 9) (t := 487) rfl (by rw [hcc]; rfl) rfl (law_c9 hfm (hin 1 (by decide)) rfl (hin 2 (by decide)) rfl (hin 3 (by decide)) rfl (hin 4 (by decide)) rfl (hin 5 (by decide)) rfl hx hy hk)
      | 10, _, hcc, hx, hy => exact mS_tsw (i := 10) (t := 520) rfl (by rw [hcc]; rfl) rfl (law_c10 hfm (hin 1 (by decide)) rfl (hin 2 (by decide)) rfl (hin 3 (by decide)) rfl (hin 4 (by decide)) rfl (hin 5 (by decide)) rfl hx hy hk)
      | 11, _, hcc, hx, hy => exact mS_tsw (i := 11) (t := 533) rfl (by rw [hcc]; rfl) rfl (law_c11 hfm (hin 1 (by decide)) rfl (hin 2 (by decide)) rfl (hin 3 (by decide)) rfl (hin 4 (by decide)) rfl (hin 5 (by decide)) rfl hx hy hk)
      | 12, _, hcc, hx, hy => exact mS_tsw (i := 12) (t := 566) rfl (by rw [hcc]; rfl) rfl (law_c12 hfm (hin 1 (by decide)) rfl (hin 2 (by decide)) rfl (hin 3 (by decide)) rfl (hin 4 (by decide)) rfl (hin 5 (by decide)) rfl hx hy hk)
      | 13, _, hcc, hx, hy => exact mS_tsw (i := 13) (t := 599) rfl (by rw [hcc]; rfl) rfl (law_c13 hfm (hin 1 (by decide)) rfl (hin 2 (by decide)) rfl (hin 3 (by decide)) rfl (hin 4 (by decide)) rfl (hin 5 (by decide)) rfl hx hy hk)
      | 14, _, hcc, hx, hy => exact mS_tsw (i := 14) (t := 632) rfl (by rw [hcc]; rfl) rfl (law_c14 hfm (hin 1 (by decide)) rfl (hin 2 (by decide)) rfl (hin 3 (by decide)) rfl (hin 4 (by decide)) rfl (hin 5 (by decide)) rfl hx hy hk)
      | 15, _, hcc, hx, hy => exact mS_tsw (i := 15) (t := 655) rfl (by rw [hcc]; rfl) rfl (law_c15 hfm (hin 1 (by decide)) rfl (hin 2 (by decide)) rfl (hin 3 (by decide)) rfl (hin 4 (by decide)) rfl (hin 5 (by decide)) rfl hx hy hk)
      | 16, _, hcc, hx, hy => exact mS_tsw (i := 16) (t := 678) rfl (by rw [hcc]; rfl) rfl (law_c16 hfm (hin 1 (by decide)) rfl (hin 2 (by decide)) rfl (hin 3 (by decide)) rfl (hin 4 (by decide)) rfl (hin 5 (by decide)) rfl hx hy hk)
      | 17, _, hcc, hx, hy => exact mS_tsw (i := 17) (t := 711) rfl (by rw [hcc]; rfl) rfl (law_c17 hfm (hin 1 (by decide)) rfl (hin 2 (by decide)) rfl (hin 3 (by decide)) rfl (hin 4 (by decide)) rfl (hin 5 (by decide)) rfl hx hy hk)
      | 18, _, hcc, hx, hy => exact mS_tsw (i := 18) (t := 744) rfl (by rw [hcc]; rfl) rfl (law_c18 hfm (hin 1 (by decide)) rfl (hin 2 (by decide)) rfl (hin 3 (by decide)) rfl (hin 4 (by decide)) rfl (hin 5 (by decide)) rfl hx hy hk)
      | 19, _, hcc, hx, hy => exact mS_tsw (i := 19) (t := 787) rfl (by rw [hcc]; rfl) rfl (law_c19 hfm (hin 1 (by decide)) rfl (hin 2 (by decide)) rfl (hin 3 (by decide)) rfl (hin 4 (by decide)) rfl (hin 5 (by decide)) rfl hx hy hk)
      | 20, _, hcc, hx, hy => exact mS_tsw (i := 20) (t := 830) rfl (by rw [hcc]; rfl) rfl (law_c20 hfm (hin 1 (by decide)) rfl (hin 2 (by decide)) rfl (hin 3 (by decide)) rfl (hin 4 (by decide)) rfl (hin 5 (by decide)) rfl hx hy hk)
      | 21, _, hcc, hx, hy => exact mS_tsw (i := 21) (t := 883) rfl (by rw [hcc]; rfl) rfl (law_c21 hfm (hin 1 (by decide)) rfl (hin 2 (by decide)) rfl (hin 3 (by decide)) rfl (hin 4 (by decide)) rfl (hin 5 (by decide)) rfl hx hy hk)
      | 22, _, hcc, hx, hy => exact mS_tsw (i := 22) (t := 916) rfl (by rw [hcc]; rfl) rfl (law_c22 hfm (hin 1 (by decide)) rfl (hin 2 (by decide)) rfl (hin 3 (by decide)) rfl (hin 4 (by decide)) rfl (hin 5 (by decide)) rfl hx hy hk)
      | 23, _, hcc, hx, hy => exact mS_tsw (i := 23) (t := 959) rfl (by rw [hcc]; rfl) rfl (law_c23 hfm (hin 1 (by decide)) rfl (hin 2 (by decide)) rfl (hin 3 (by decide)) rfl (hin 4 (by decide)) rfl (hin 5 (by decide)) rfl hx hy hk)
      | 24, _, hcc, hx, hy => exact mS_tsw (i := 24) (t := 1012) rfl (by rw [hcc]; rfl) rfl (law_c24 hfm (hin 1 (by decide)) rfl (hin 2 (by decide)) rfl (hin 3 (by decide)) rfl (hin 4 (by decide)) rfl (hin 5 (by decide)) rfl hx hy hk)
      | 25, _, hcc, hx, hy => exact mS_tsw (i := 25) (t := 1055) rfl (by rw [hcc]; rfl) rfl (law_c25 hfm (hin 1 (by decide)) rfl (hin 2 (by decide)) rfl (hin 3 (by decide)) rfl (hin 4 (by decide)) rfl (hin 5 (by decide)) rfl hx hy hk)
      | 26, _, hcc, hx, hy => exact mS_tsw (i := 26) (t := 1088) rfl (by rw [hcc]; rfl) rfl (law_c26 hfm (hin 1 (by decide)) rfl (hin 2 (by decide)) rfl (hin 3 (by decide)) rfl (hin 4 (by decide)) rfl (hin 5 (by decide)) rfl hx hy hk)
      | 27, _, hcc, hx, hy => exact mS_tsw (i := 27) (t := 1121) rfl (by rw [hcc]; rfl) rfl (law_c27 hfm (hin 1 (by decide)) rfl (hin 2 (by decide)) rfl (hin 3 (by decide)) rfl (hin 4 (by decide)) rfl (hin 5 (by decide)) rfl hx hy hk)
      | 28, _, hcc, hx, hy => exact mS_tsw (i := 28) (t := 1144) rfl (by rw [hcc]; rfl) rfl (law_c28 hfm (hin 1 (by decide)) rfl (hin 2 (by decide)) rfl (hin 3 (by decide)) rfl (hin 4 (by decide)) rfl (hin 5 (by decide)) rfl hx hy hk)
      | 29, _, hcc, hx, hy => exact mS_tsw (i := 29) (t := 1177) rfl (by rw [hcc]; rfl) rfl (law_c29 hfm (hin 1 (by decide)) rfl (hin 2 (by decide)) rfl (hin 3 (by decide)) rfl (hin 4 (by decide)) rfl (hin 5 (by decide)) rfl hx hy hk)
      | 30, _, hcc, hx, hy => exact mS_tsw (i := 30) (t := 1210) rfl (by rw [hcc]; rfl) rfl (law_c30 hfm (hin 1 (by decide)) rfl (hin 2 (by decide)) rfl (hin 3 (by decide)) rfl (hin 4 (by decide)) rfl (hin 5 (by decide)) rfl hx hy hk)
      | 31, _, hcc, hx, hy => exact mS_tsw (i := 31) (t := 1253) rfl (by rw [hcc]; rfl) rfl (law_c31 hfm (hin 1 (by decide)) rfl (hin 2 (by decide)) rfl (hin 3 (by decide)) rfl (hin 4 (by decide)) rfl (hin 5 (by decide)) rfl hx hy hk)
      | 32, _, hcc, hx, hy => exact mS_tsw (i := 32) (t := 1276) rfl (by rw [hcc]; rfl) rfl (law_c32 hfm (hin 1 (by decide)) rfl (hin 2 (by decide)) rfl (hin 3 (by decide)) rfl (hin 4 (by decide)) rfl (hin 5 (by decide)) rfl hx hy hk)
      | 33, _, hcc, hx, hy => exact mS_tsw (i := 33) (t := 1299) rfl (by rw [hcc]; rfl) rfl (law_c33 hfm (hin 1 (by decide)) rfl (hin 2 (by decide)) rfl (hin 3 (by decide)) rfl (hin 4 (by decide)) rfl (hin 5 (by decide)) rfl hx hy hk)
      | 34, _, hcc, hx, hy => exact mS_tsw (i := 34) (t := 1322) rfl (by rw [hcc]; rfl) rfl (law_c34 hfm (hin 1 (by decide)) rfl (hin 2 (by decide)) rfl (hin 3 (by decide)) rfl (hin 4 (by decide)) rfl (hin 5 (by decide)) rfl hx hy hk)
      | c + 35, h35, _, _, _ => exact absurd h35 (by omega)
    · obtain ⟨xf, yf, hf⟩ := ih (i + 6) x y (by omega) (by omega) hI
      refine ⟨xf, yf, head ?_⟩
      refine mS_tswd rfl (fun j hj => Or.inl ?_) (tail hf)
      have hj35 : j < 35 := hj
      intro z
      apply hc
      rw [z]
      show 0 ≤ (0 : Int) + (j : Int) ∧ (0 : Int) + (j : Int) < 35
      omega
end MW
