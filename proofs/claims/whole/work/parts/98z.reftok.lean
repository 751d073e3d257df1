/-! ===== the text: the reference's tokens ===== -/
section TH
variable {B : Nat → Nat} {b : Nat} {y y0 y1 : mY}
theorem yl_at (y : mY) (q c : Nat) (v : Int64) (c' : Nat) : (m_yl y q c v).2 q c' = if c' = c then v else y.2 q c' := by
  unfold m_yl va_up
  simp
theorem yl_ne {y : mY} {q q' c : Nat} {v : Int64} (h : q' ≠ q) : (m_yl y q c v).2 q' = y.2 q' := by
  unfold m_yl va_up
  simp [h]
/-- cells of tokens -/
def tkW (q c : Nat) : Prop := (q = 279 ∧ c = 10) ∨ q = 282 ∨ q = 283 ∨ q = 284
def tkY1 (y y1 : mY) (k : Nat) (p1 p2 p3 : Int32) (p4 : Int64) : Prop := (∀ q c, ¬ tkW q c → y1.1 q c = y.1 q c) ∧ (∀ q, q ≠ 285 → y1.2 q = y.2 q) ∧ y1.1 279 10 = nI (k + 1) ∧ (y1.1 282 k = p1 ∧ y1.1 283 k = p2 ∧ y1.1 284 k = p3 ∧ y1.2 285 k = p4) ∧ ∀ j, j ≠ k → y1.1 282 j = y.1 282 j ∧ y1.1 283 j = y.1 283 j ∧ y1.1 284 j = y.1 284 j ∧ y1.2 285 j = y.2 285 j
theorem token_y {k : Nat} (hk : k < 403) (h10 : y.1 279 10 = nI k) (p1 p2 p3 : Int32) (p4 : Int64) : ∃ y1, f_X11_token p1 p2 p3 p4 y = some y1 ∧ tkY1 y y1 k p1 p2 p3 p4 := by
  have i403 : m_in (nI k) 403 = true := in_ok hk (by decide)
  unfold f_X11_token
  rw [h10, if_pos i403, m_let, cl (by omega), ys_ne (show 279 ≠ 282 by decide), h10, if_pos i403, m_let, cl (by omega), ys_ne (show 279 ≠ 283 by decide), ys_ne (show 279 ≠ 282 by decide), h10, if_pos i403, m_let, cl (by omega), ys_ne (show 279 ≠ 284 by decide), ys_ne (show 279 ≠ 283 by decide), ys_ne (show 279 ≠ 282 by decide), h10, if_pos i403, m_let, m_let, cl (by omega)]
  generalize hz : m_ys (m_ys (m_ys y 282 k p1) 283 k p2) 284 k p3 = z
  have zq : ∀ q c, q ≠ 282 → q ≠ 283 → q ≠ 284 → z.1 q c = y.1 q c := fun q c a1 a2 a3 => by rw [← hz, ys_ne a3, ys_ne a2, ys_ne a1]
  have z2 : z.2 = y.2 := by rw [← hz]; rfl
  have e1 : (m_yl z 285 k p4).1 = z.1 := rfl
  refine ⟨_, rfl, fun q c hq => ?_, fun q hq => ?_, ?_, ⟨?_, ?_, ?_, ?_⟩, fun j hj => ⟨?_, ?_, ?_, ?_⟩⟩
  · unfold tkW at hq
    by_cases e : q = 279
    · subst e
      rw [ys_ec (by omega), e1, zq _ _ (by decide) (by decide) (by decide)]
    · rw [ys_ne e, e1, zq q c (by omega) (by omega) (by omega)]
  · show (m_yl z 285 k p4).2 q = _
    rw [yl_ne hq, z2]
  · rw [ys_eq, e1, zq _ _ (by decide) (by decide) (by decide), h10, nI_1]
  · rw [ys_ne (by decide), e1, ← hz, ys_ne (by decide), ys_ne (by decide), ys_eq]
  · rw [ys_ne (by decide), e1, ← hz, ys_ne (by decide), ys_eq]
  · rw [ys_ne (by decide), e1, ← hz, ys_eq]
  · show (m_yl z 285 k p4).2 285 k = _
    rw [yl_at, if_pos rfl]
  · rw [ys_ne (by decide), e1, ← hz, ys_ne (by decide), ys_ne (by decide), ys_ec hj]
  · rw [ys_ne (by decide), e1, ← hz, ys_ne (by decide), ys_ec hj, ys_ne (by decide)]
  · rw [ys_ne (by decide), e1, ← hz, ys_ec hj, ys_ne (by decide), ys_ne (by decide)]
  · show (m_yl z 285 k p4).2 285 j = _
    rw [yl_at, if_neg hj, z2]
/-- a token as the reference holds it -/
def yTo (B : Nat → Nat) (b : Nat) (y : mY) (j : Nat) : Prop := y.1 282 j = nI (kdK B b j) ∧ y.1 283 j = nI (tkS B b j) ∧ (kdK B b j = 1 → y.2 285 j = lN (vlw B 27 (tkS B b j) (tkL B b j))) ∧ (kdK B b j = 2 → y.1 284 j = nI (vdg B (tkS B b j) (tkL B b j)))
/-- k tokens so far -/
def yTs (B : Nat → Nat) (b : Nat) (y0 y : mY) (k : Nat) : Prop := (∀ q c, ¬ tkW q c → y.1 q c = y0.1 q c) ∧ (∀ q, q ≠ 285 → y.2 q = y0.2 q) ∧ y.1 279 10 = nI k ∧ ∀ j, j < k → yTo B b y j
theorem yTs_B {k : Nat} (h : tpBy B b y0) (hy : yTs B b y0 y k) : tpBy B b y := ⟨h.1, by rw [hy.1 279 4 (by unfold tkW; omega)]; exact h.2.1, fun i hi => by rw [hy.1 281 i (by unfold tkW; omega)]; exact h.2.2 i hi⟩
theorem yTs_s {k : Nat} {p3 : Int32} {p4 : Int64} (hy : yTs B b y0 y k) (h1 : tkY1 y y1 k (nI (kdK B b k)) (nI (tkS B b k)) p3 p4) (w1 : kdK B b k = 1 → p4 = lN (vlw B 27 (tkS B b k) (tkL B b k))) (w2 : kdK B b k = 2 → p3 = nI (vdg B (tkS B b k) (tkL B b k))) : yTs B b y0 y1 (k + 1) := by
  obtain ⟨a1, a2, a3, a4, a5⟩ := h1
  refine ⟨fun q c hq => (a1 q c hq).trans (hy.1 q c hq), fun q hq => (a2 q hq).trans (hy.2.1 q hq), a3, fun j hj => ?_⟩
  by_cases e : j = k
  · subst e
    exact ⟨a4.1, a4.2.1, fun z => by rw [a4.2.2.2]; exact w1 z, fun z => by rw [a4.2.2.1]; exact w2 z⟩
  · obtain ⟨b1, b2, b3, b4⟩ := a5 j e
    obtain ⟨c1, c2, c3, c4⟩ := hy.2.2.2 j (by omega)
    exact ⟨b1.trans c1, b2.trans c2, fun z => b4.trans (c3 z), fun z => b3.trans (c4 z)⟩
/-- what the reference's tokens are at the end -/
def yEn (B : Nat → Nat) (b : Nat) (y0 y : mY) (M : Nat) : Prop := yTs B b y0 y M ∧ M ≤ 401 ∧ (∀ j, j + 1 < M → kdK B b j ≠ 0) ∧ (M = 401 ∨ (1 ≤ M ∧ kdK B b (M - 1) = 0))
theorem bl_c : ∀ c, c < 256 → isBl c = true → (nI c = 9 ∨ nI c = 10 ∨ nI c = 13 ∨ nI c = 32) := by decide +kernel
theorem bl_n : ∀ c, c < 256 → ¬ isBl c = true → (¬ nI c = 9 ∧ ¬ nI c = 10 ∧ ¬ nI c = 13 ∧ ¬ nI c = 32) := by decide +kernel
theorem parts_L (hB : tpBy B b y0) (hK : yKs y0) : ∀ n k i (y : mY), yTs B b y0 y k → k ≤ 401 → (∀ j, j < k → kdK B b j ≠ 0) → i ≤ b → tkS B b k = enP B b isBl i → b - i < n → ∃ y', f_X11_parts_L7 n (nI i) y (fun y23 => ((f_X11_token (0 : Int32) (y23.1 279 4) (0 : Int32) (0 : Int64) y23).bind fun q24 => (some q24))) = some y' ∧ ∃ M, yEn B b y0 y' M
  | 0, _, _, _, _, _, _, _, _, h => absurd h (Nat.not_lt_zero _)
  | n + 1, k, i, y, hy, hk, hnz, hi, hS, hn => by
    have b2 := hB.1
    have hBy := yTs_B hB hy
    have hKy : yKs y := by
      unfold yKs
      rw [hy.2.1 286 (by decide)]
      exact hK
    rw [f_X11_parts_L7, hy.2.2.1]
    by_cases c4 : k = 401
    · rw [if_pos (show (400 : Int32) < nI k from nI_lt (a := 400) (by omega) (by omega))]
      exact ⟨y, rfl, k, hy, hk, fun j hj => hnz j (by omega), Or.inl c4⟩
    rw [if_neg (show ¬ (400 : Int32) < nI k from nI_nlt (a := 400) (by omega) (by decide)), byte_y hBy i (by omega), Option.bind_some, hBy.2.1]
    by_cases cb : i < b
    · have c256 := (hB.2.2 i cb).1
      rw [if_pos (nI_lt cb (by omega)), if_pos cb]
      by_cases cbl : isBl (B i) = true
      · have go := parts_L hB hK n k (i + 1) y hy hk hnz (by omega) (by rw [hS, enP_y cb cbl]) (by omega)
        rw [nI_1]
        by_cases d1 : nI (B i) = 9
        · rw [if_pos d1]; exact go
        rw [if_neg d1]
        by_cases d2 : nI (B i) = 10
        · rw [if_pos d2]; exact go
        rw [if_neg d2]
        by_cases d3 : nI (B i) = 13
        · rw [if_pos d3]; exact go
        rw [if_neg d3]
        by_cases d4 : nI (B i) = 32
        · rw [if_pos d4]; exact go
        · exfalso
          rcases bl_c _ c256 cbl with z | z | z | z
          · exact d1 z
          · exact d2 z
          · exact d3 z
          · exact d4 z
      · obtain ⟨d1, d2, d3, d4⟩ := bl_n _ c256 cbl
        rw [if_neg d1, if_neg d2, if_neg d3, if_neg d4]
        have hSi : tkS B b k = i := by rw [hS, enP_n (fun z => cbl z.2)]
        have hSb : tkS B b k < b := by rw [hSi]; exact cb
        have kk : kdK B b k = kdT B i (tkE B b i) := by
          unfold kdK
          rw [if_pos hSb, hSi]
        have k0 : kdK B b k ≠ 0 := fun z => absurd hSb ((kdK_0 k).mp z)
        have eb := tkE_b (B := B) cb
        have hL : tkL B b k = tkE B b i - i := by unfold tkL; rw [hSi]
        have hP : tkP B b (k + 1) = tkE B b i := by rw [tkP_s hSb, hSi]
        have go : ∀ (p3 : Int32) (p4 : Int64), (kdK B b k = 1 → p4 = lN (vlw B 27 (tkS B b k) (tkL B b k))) → (kdK B b k = 2 → p3 = nI (vdg B (tkS B b k) (tkL B b k))) → ∃ y', ((f_X11_token (nI (kdK B b k)) (nI i) p3 p4 y).bind fun q => f_X11_parts_L7 n (nI i + nI (tkE B b i - i)) q (fun y23 => ((f_X11_token (0 : Int32) (y23.1 279 4) (0 : Int32) (0 : Int64) y23).bind fun q24 => (some q24)))) = some y' ∧ ∃ M, yEn B b y0 y' M := fun p3 p4 w1 w2 => by
          obtain ⟨z1, e1, t1⟩ := token_y (show k < 403 by omega) hy.2.2.1 (nI (kdK B b k)) (nI i) p3 p4
          rw [e1, Option.bind_some, nI_add, show i + (tkE B b i - i) = tkP B b (k + 1) by rw [hP]; omega]
          refine parts_L hB hK n (k + 1) (tkP B b (k + 1)) z1 (yTs_s hy (by rw [hSi]; exact t1) w1 w2) (by omega) (fun j hj => ?_) (tkP_b _) rfl (by rw [hP]; omega)
          by_cases e : j = k
          · rw [e]; exact k0
          · exact hnz j (by omega)
        have one : ¬ (1 : Int32) = 0 := by decide
        rw [(x11_lt _).1, (x11_lt _).2, (cB _ c256).2.1, (cB _ c256).2.2]
        by_cases cl' : isLt (B i) = true
        · have en : enP B b isLt (i + 0) = tkE B b i := by
            unfold tkE
            rw [if_pos cl', Nat.add_zero, enP_y cb cl']
          have lt := ltr_tk (b := b) cb cl'
          rw [if_pos cl', if_neg one]
          have pw : ∀ kq, f_X11_parts_L85 (nI i) mF (0 : Int32) (0 : Int64) y kq = kq (nI (tkE B b i - i)) (lN (vlw B 27 i (min (tkE B b i - i) 8))) := fun kq => by
            have u := rparts_w hBy (i := i) kq mF 0 (by omega) (Nat.lt_of_le_of_lt (show b - (i + 0) ≤ 2000 by omega) (by decide)) (fun p hp => absurd hp (Nat.not_lt_zero _))
            rw [en] at u
            exact u
          rw [pw]
          rw [m_jn]
          dsimp only
          have kT : kdK B b k = if 8 < tkE B b i - i then 3 else kdW (wrd B i (tkE B b i - i)) := by rw [kk]; unfold kdT; rw [if_pos cl']
          by_cases c8 : 8 < tkE B b i - i
          · rw [if_neg (show ¬ nI (tkE B b i - i) ≤ (8 : Int32) from nI_ge (a := 8) c8 (by omega)), m_jn]
            dsimp only
            rw [if_pos (show (8 : Int32) < nI (tkE B b i - i) from nI_lt (a := 8) c8 (by omega))]
            rw [if_pos c8] at kT
            have t := go 0 (lN (vlw B 27 i (min (tkE B b i - i) 8))) (fun z => by omega) (fun z => by omega)
            rw [kT] at t
            exact t
          · rw [if_pos (show nI (tkE B b i - i) ≤ (8 : Int32) from nI_le (b := 8) (by omega) (by decide)), m_jn]
            dsimp only
            rw [if_neg (show ¬ (8 : Int32) < nI (tkE B b i - i) from nI_nlt (a := 8) (by omega) (by decide)), show min (tkE B b i - i) 8 = tkE B b i - i by omega]
            rw [if_neg c8] at kT
            have pk := fun kq => rparts_k hKy (B := B) (i := i) (n := tkE B b i - i) lt (by omega) kq
            rw [pk, ← kT]
            exact go 0 (lN (vlw B 27 i (tkE B b i - i))) (fun z => by rw [hSi, hL]) (fun z => by
              exfalso
              rcases kdW_v (wrd B i (tkE B b i - i)) with v | ⟨p, p1, p2, _⟩ <;> omega)
        · rw [if_neg cl', if_pos rfl]
          by_cases cd : isDg (B i) = true
          · have en : enP B b isDg (i + 0) = tkE B b i := by
              unfold tkE
              rw [if_neg cl', if_pos cd, Nat.add_zero, enP_y cb cd]
            rw [if_pos cd, if_neg one]
            have pd : ∀ kq, f_X11_parts_L207 (nI i) mF (0 : Int32) (0 : Int32) y kq = kq (nI (tkE B b i - i)) (nI (vdg B i (min (tkE B b i - i) 4))) := fun kq => by
              have u := rparts_d hBy (i := i) kq mF 0 (by omega) (Nat.lt_of_le_of_lt (show b - (i + 0) ≤ 2000 by omega) (by decide)) (fun p hp => absurd hp (Nat.not_lt_zero _))
              rw [en] at u
              exact u
            rw [pd, m_jn]
            dsimp only
            have kT : kdK B b k = if 4 < tkE B b i - i then 3 else 2 := by rw [kk]; unfold kdT; rw [if_neg cl', if_pos cd]
            by_cases c5 : 4 < tkE B b i - i
            · rw [if_neg (show ¬ nI (tkE B b i - i) ≤ (4 : Int32) from nI_ge (a := 4) c5 (by omega))]
              rw [if_pos c5] at kT
              have t := go (nI (vdg B i (min (tkE B b i - i) 4))) 0 (fun z => by omega) (fun z => by omega)
              rw [kT] at t
              exact t
            · rw [if_pos (show nI (tkE B b i - i) ≤ (4 : Int32) from nI_le (b := 4) (by omega) (by decide)), show min (tkE B b i - i) 4 = tkE B b i - i by omega]
              rw [if_neg c5] at kT
              have t := go (nI (vdg B i (tkE B b i - i))) 0 (fun z => by omega) (fun z => by rw [hSi, hL])
              rw [kT] at t
              exact t
          · rw [if_neg cd, if_pos rfl, nI_1, byte_y hBy (i + 1) (by omega), Option.bind_some]
            have e1 : tkE B b i = i + 1 := by unfold tkE; rw [if_neg cl', if_neg cd]
            have kT : kdK B b k = if B i = 59 then 4 else 3 := by rw [kk]; unfold kdT; rw [if_neg cl', if_neg cd]
            unfold f_X11_sign
            have t := go 0 0 (fun z => by split at kT <;> omega) (fun z => by split at kT <;> omega)
            rw [e1, show i + 1 - i = 1 by omega] at t
            obtain ⟨z1, u1, u2⟩ := token_y (show k < 403 by omega) hy.2.2.1 (nI (kdK B b k)) (nI i) 0 0
            rw [u1, Option.bind_some] at t
            by_cases c59 : B i = 59
            · rw [if_pos (show nI (B i) = (59 : Int32) by rw [c59]; rfl)]
              rw [if_pos c59] at kT
              rw [kT] at u1
              rw [show f_X11_token (4 : Int32) (nI i) (0 : Int32) (0 : Int64) y = some z1 from u1, Option.bind_some, Option.bind_some]
              exact t
            · rw [if_neg (show ¬ nI (B i) = (59 : Int32) from fun z => c59 ((nI_eq (b := 59) (by omega) (by decide)).mp z))]
              rw [if_neg c59] at kT
              rw [kT] at u1
              rw [show f_X11_token (3 : Int32) (nI i) (0 : Int32) (0 : Int64) y = some z1 from u1, Option.bind_some, Option.bind_some]
              exact t
    · have ib : i = b := by omega
      have hSb : tkS B b k = b := by rw [hS, ib, enP_n (fun z => by omega)]
      have k0 : kdK B b k = 0 := (kdK_0 k).mpr (by omega)
      obtain ⟨z1, e1, t1⟩ := token_y (show k < 403 by omega) hy.2.2.1 (nI (kdK B b k)) (nI b) 0 0
      rw [if_neg (nI_nlt (by omega) (by omega))]
      rw [k0, nI_0] at e1
      rw [e1, Option.bind_some]
      refine ⟨z1, rfl, k + 1, yTs_s hy (by rw [hSb]; exact t1) (fun z => by omega) (fun z => by omega), by omega, fun j hj => hnz j (by omega), Or.inr ⟨by omega, k0⟩⟩
theorem parts_y (hB : tpBy B b y) (hK : yKs y) : ∃ y', f_X11_parts y = some y' ∧ ∃ M, yEn B b y y' M := by
  have b2 := hB.1
  unfold f_X11_parts
  rw [m_let]
  have q : ∀ q c, ¬ tkW q c → (m_ys y 279 10 0).1 q c = y.1 q c := fun q c hq => by
    unfold tkW at hq
    by_cases e : q = 279
    · subst e
      rw [ys_ec (by omega)]
    · rw [ys_ne e]
  have t := parts_L hB hK mF 0 0 (m_ys y 279 10 0) ⟨q, fun _ _ => rfl, ys_eq _ _ _ _, fun j hj => absurd hj (Nat.not_lt_zero _)⟩ (by omega) (fun j hj => absurd hj (Nat.not_lt_zero _)) (Nat.zero_le _) rfl (Nat.lt_of_le_of_lt (show b - 0 ≤ 2000 by omega) (by decide))
  exact t
end TH
