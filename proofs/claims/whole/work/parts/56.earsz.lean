/-! ===== ears: the two alike ===== -/
section E8
variable {C : Nat → Nat → Prop} {B : Nat → Prop} {np : Nat} {σ : Nat → Int32} {P L : Int32}
theorem bC_of (hN : s_N σ np P L) (hT : g_T (sA σ L) B) (hB8 : ∀ p, B p → p < 8) (hC : ∀ p q, C p q ↔ sA σ L p q ∧ B p ∧ B q) : bC (sA σ L) C B := by
  refine ⟨hN.2.1.1, fun a b h => (hN.2.1.2.1 a b h).2.2, hT, hB8, hC, ?_⟩
  refine g_n_php 64 (fun c l => c / 8 < c % 8 ∧ bt L l = true ∧ sE σ l (c / 8) (c % 8)) ?_ 16 _ ?_
  · rintro c d l hc hd ⟨c1, c2, c3⟩ ⟨d1, d2, d3⟩
    obtain ⟨u, v, hu, hv, huv, e1, e2⟩ := hN.1.2.2.2.2.2.2.1 l (hN.2.2.1 l c2)
    have h8 := hN.1.1
    have q1 := (sE_iff (by omega) (by omega) (by omega) (by omega) e1 e2).mp c3
    have q2 := (sE_iff (by omega) (by omega) (by omega) (by omega) e1 e2).mp d3
    omega
  · rintro c hc ⟨h1, h2⟩
    obtain ⟨⟨_, _, l, l1, l2, l3⟩, _⟩ := (hC _ _).mp h2
    exact ⟨l, l1, h1, l2, l3⟩
def ef_W (q c : Nat) : Prop := ee_W q c ∨ q = 293
theorem laysEars_0 {O : Int32} (y : mY) (hW : sW (y.1 289) np) (hO : ∀ p, bt O p = true ↔ B p) (h0 : y.1 279 51 = 0) {Q : Option mY → Prop} (kk : mY → Option mY) (hk : ∀ y', yF (fun q c => q = 279 ∧ c = 51) y y' → (∀ l, bt (y'.1 279 51) l = true ↔ l < sm (y.1 289) ∧ bt (y.1 289 3) l = true ∧ ∀ p q, p < 8 → q < 8 → sE (y.1 289) l p q → B p) → Q (kk y')) : Q (f_X11_laysEars_L20 O mF 0 y kk) := by
  obtain ⟨w1, w2, w3, w4, w5, w6, w7, w8, w9⟩ := id hW
  refine lp_up (sm (y.1 289)) (fun n b s => f_X11_laysEars_L20 O n b s kk) (fun j s => yF (fun q c => q = 279 ∧ c = 51) y s ∧ ∀ l, bt (s.1 279 51) l = true ↔ l < j ∧ bt (y.1 289 3) l = true ∧ ∀ p q, p < 8 → q < 8 → sE (y.1 289) l p q → B p) Q ?_ ?_ mF 0 y (Nat.lt_of_le_of_lt w3 (by decide)) (by omega) ⟨yF_rf _ _, fun l => by rw [h0, b_0]; exact ⟨fun z => (by cases z), fun z => absurd z.1 (by omega)⟩⟩
  · intro n s hI
    have e289 : s.1 289 = y.1 289 := yF_row hI.1 (fun c z => by omega)
    show Q (f_X11_laysEars_L20 O (n + 1) (nI (sm (y.1 289))) s kk)
    rw [f_X11_laysEars_L20, if_pos (by rw [e289, w2]; exact (nI_leI (by omega) (by omega)).mpr (Nat.le_refl _))]
    exact hk s hI.1 hI.2
  · intro n j s hj hI ih
    have e289 : s.1 289 = y.1 289 := yF_row hI.1 (fun c z => by omega)
    show Q (f_X11_laysEars_L20 O (n + 1) (nI j) s kk)
    obtain ⟨a, b, ha, hb, hab, e1, e2⟩ := w7 j hj
    have key : (∀ p q, p < 8 → q < 8 → sE (y.1 289) j p q → B p) ↔ B a ∧ B b := by
      constructor
      · intro h
        exact ⟨h a b (by omega) (by omega) (Or.inl ⟨e1, e2⟩), h b a (by omega) (by omega) (Or.inr ⟨e1, e2⟩)⟩
      · rintro ⟨h1, h2⟩ p q hp hq he
        rcases (sE_iff (by omega) (by omega) hp hq e1 e2).mp he with ⟨z, _⟩ | ⟨z, _⟩
        · rw [z]; exact h1
        · rw [z]; exact h2
    rw [f_X11_laysEars_L20, if_neg (by rw [e289, w2]; exact fun z => absurd ((nI_leI (by omega) (by omega)).mp z) (by omega)), e289, nI_1]
    have skip : ¬ (bt (y.1 289 3) j = true ∧ B a ∧ B b) → Q (f_X11_laysEars_L20 O n (nI (j + 1)) s kk) := by
      intro hno
      refine ih s ⟨hI.1, fun l => ?_⟩
      rw [hI.2 l]
      refine ⟨fun z => ⟨by omega, z.2⟩, fun z => ⟨?_, z.2⟩⟩
      have : l ≠ j := fun e => hno ⟨e ▸ z.2.1, key.mp (e ▸ z.2.2)⟩
      omega
    by_cases c1 : bt (y.1 289 3) j = true
    · rw [if_neg (h11t (by omega) c1), a8, if_pos (in_ok (by omega) (by decide)), cl (by omega), e1]
      by_cases c2 : bt O a = true
      · rw [if_neg (h11t (by omega) c2), a24, if_pos (in_ok (by omega) (by decide)), cl (by omega), e2]
        by_cases c3 : bt O b = true
        · rw [if_neg (h11t (by omega) c3), m_let]
          refine ih _ ⟨yF_set hI.1 ⟨rfl, rfl⟩, fun l => ?_⟩
          rw [ys_eq, b_or, b_bit (by omega), Bool.or_eq_true, decide_eq_true_eq, hI.2 l]
          constructor
          · rintro (z | rfl)
            · exact ⟨by omega, z.2⟩
            · exact ⟨by omega, c1, key.mpr ⟨(hO a).mp c2, (hO b).mp c3⟩⟩
          · intro z
            by_cases e : l = j
            · exact Or.inr e
            · exact Or.inl ⟨by omega, z.2⟩
        · rw [if_pos (h11f (by omega) c3)]
          exact skip (fun z => c3 ((hO b).mpr z.2.2))
      · rw [if_pos (h11f (by omega) c2)]
        exact skip (fun z => c2 ((hO a).mpr z.2.1))
    · rw [if_pos (h11f (by omega) c1)]
      exact skip (fun z => c1 z.1)
theorem laysEars_ok {k h n : Nat} (hk : k < 64) (y : mY) (hW : sW (y.1 289) np) (h1 : y.1 296 k = nI n) (h2 : y.1 297 k = nI h) (hnb : ∀ p, bt (nI n) p = true ↔ B p) (hT : g_T (sA (y.1 289) (y.1 289 3)) B) (hB8 : ∀ p, B p → p < 8) (hC : ∀ p q, C p q ↔ sA (y.1 289) (y.1 289 3) p q ∧ B p ∧ B q) (hh : B h) : ∃ y' R, f_X11_laysEars (nI k) y = some y' ∧ er C (g_n B 8) 20 C [h] [] R ∧ ry_E y' R ∧ y'.1 279 46 = nI R.length ∧ (∀ Q, Q ∈ R → Q.length ≤ 9) ∧ R.length ≤ 16 ∧ yF ef_W y y' := by
  have hh8 := hB8 h hh
  have hN := sN_learnt hW
  have hb := bC_of hN hT hB8 hC
  unfold f_X11_laysEars
  obtain ⟨L, y1, l1, l2, l3, l4⟩ := laysNet_ok (np := np) (w := 1) (by decide) y hW
  have hL : L = y.1 289 3 := by
    rcases l1 with ⟨z, _⟩ | ⟨_, z⟩
    · omega
    · exact z
  subst hL
  have e1 : ∀ q, q ≠ 293 → y1.1 q = y.1 q := fun q hq => l3.1 q hq
  rw [show f_X11_laysNet (1 : Int32) = f_X11_laysNet (nI 1) from rfl, l2, Option.bind_some, if_pos (in_ok hk (by decide)), m_let]
  dsimp only
  rw [cl (by omega), e1 296 (by decide), h1]
  have e289 : (m_ys y1 279 51 0).1 289 = y.1 289 := by rw [ys_ne (by decide), e1 289 (by decide)]
  refine laysEars_0 (B := B) (np := np) (Q := fun o => ∃ y' R, o = some y' ∧ er C (g_n B 8) 20 C [h] [] R ∧ ry_E y' R ∧ y'.1 279 46 = nI R.length ∧ (∀ Q, Q ∈ R → Q.length ≤ 9) ∧ R.length ≤ 16 ∧ yF ef_W y y') _ (by rw [e289]; exact hW) hnb (ys_eq _ _ _ _) _ ?_
  intro y4 F4 h4
  rw [e289] at h4
  have F4' : yF ef_W y y4 := yF_tr (yF_mo (yF_R l3) (fun q c z => Or.inr z.1)) (yF_tr (yF_set (yF_rf _ _) (Or.inl (Or.inl ⟨rfl, by omega⟩))) (yF_mo F4 (fun q c z => Or.inl (Or.inl ⟨z.1, by omega⟩))))
  have q4 : ∀ q, q ≠ 279 → q ≠ 293 → y4.1 q = y.1 q := fun q c1 c2 => by
    rw [yF_row F4 (q := q) (fun c z => c1 z.1), ys_ne c1, e1 q c2]
  rw [m_let, m_let, m_let, if_pos (in_ok hk (by decide)), ys_ne (by decide), ys_ne (by decide), ys_ne (by decide), q4 297 (by decide) (by decide), h2, m_let, if_pos (in_ok hk (by decide)), ys_ne (by decide), ys_ne (by decide), ys_ne (by decide), ys_ne (by decide), q4 297 (by decide) (by decide), h2, m_let]
  have F9 : yF ee_W y4 (m_ys (m_ys (m_ys (m_ys (m_ys y4 279 46 0) 279 50 0) 279 48 1) 307 0 (nI h)) 279 49 ((1 : Int32) <<< (nI h &&& 31))) := yF_set (yF_set (yF_set (yF_set (yF_set (yF_rf _ _) (Or.inl ⟨rfl, by omega⟩)) (Or.inl ⟨rfl, by omega⟩)) (Or.inl ⟨rfl, by omega⟩)) (Or.inr ⟨by omega, by omega⟩)) (Or.inl ⟨rfl, by omega⟩)
  have σ9 : (m_ys (m_ys (m_ys (m_ys (m_ys y4 279 46 0) 279 50 0) 279 48 1) 307 0 (nI h)) 279 49 ((1 : Int32) <<< (nI h &&& 31))).1 289 = y.1 289 := (ee_289 F9).trans (q4 289 (by decide) (by decide))
  have hmF : 20 < mF := by decide
  have c51 : (m_ys (m_ys (m_ys (m_ys (m_ys y4 279 46 0) 279 50 0) 279 48 1) 307 0 (nI h)) 279 49 ((1 : Int32) <<< (nI h &&& 31))).1 279 51 = y4.1 279 51 := by rw [ys_ec (by decide), ys_ne (by decide), ys_ec (by decide), ys_ec (by decide), ys_ec (by decide)]
  have c50 : (m_ys (m_ys (m_ys (m_ys (m_ys y4 279 46 0) 279 50 0) 279 48 1) 307 0 (nI h)) 279 49 ((1 : Int32) <<< (nI h &&& 31))).1 279 50 = 0 := by rw [ys_ec (by decide), ys_ne (by decide), ys_ec (by decide), ys_eq]
  obtain ⟨y', R, r1, r2, r3, r4, r5, r6, r7⟩ := laysEars_2 (np := np) hW hC hb hnb 16 mF 20 C [h] [] (m_ys (m_ys (m_ys (m_ys (m_ys y4 279 46 0) 279 50 0) 279 48 1) 307 0 (nI h)) 279 49 ((1 : Int32) <<< (nI h &&& 31))) (by omega) (by omega) rfl (EI_0 hb hh) σ9 (fun p q hp hq => by
    rw [ee_293 F9, yF_row F4 (q := 293) (fun c z => by omega), ys_ne (by decide), ← l4]
    exact ⟨fun z => z.2.2, fun z => ⟨hp, hq, z⟩⟩) ⟨by rw [c51, σ9]; exact h4, by
    rw [c50]
    intro l hl
    rw [b_0] at hl
    exact absurd hl (by decide), fun p q => by
    rw [c50, c51, σ9]
    constructor
    · intro hc
      obtain ⟨⟨p8, q8, l, l5, l6, l7⟩, hBp, hBq⟩ := (hC p q).mp hc
      refine ⟨p8, q8, l, (h4 l).mpr ⟨hN.2.2.1 l l6, l6, fun a b ha hb' he => ?_⟩, by rw [b_0]; decide, l7⟩
      obtain ⟨u, v, hu, hv, huv, f1, f2⟩ := hW.2.2.2.2.2.2.1 l (hN.2.2.1 l l6)
      have w1 := hW.1
      have q1 := (sE_iff (by omega) (by omega) ha hb' f1 f2).mp he
      have q2 := (sE_iff (by omega) (by omega) p8 q8 f1 f2).mp l7
      have : a = p ∨ a = q := by omega
      rcases this with z | z
      · rw [z]; exact hBp
      · rw [z]; exact hBq
    · rintro ⟨p8, q8, l, l5, _, l7⟩
      have k := (h4 l).mp l5
      exact (hC p q).mpr ⟨⟨p8, q8, l, Nat.lt_of_lt_of_le k.1 hW.2.2.1, k.2.1, l7⟩, k.2.2 p q p8 q8 l7, k.2.2 q p q8 p8 (sE_sy l7)⟩, by
    rw [ys_ec (by decide), ys_ne (by decide), ys_eq]; rfl, fun p => by
    rw [ys_eq, b_bit (by omega), decide_eq_true_eq, List.mem_singleton], fun i p hi => by
    have hi0 := (List.getElem?_eq_some_iff.mp hi).1
    have : i = 0 := by simp at hi0; omega
    subst this
    have ep : h = p := by simpa using hi
    rw [ys_ne (by decide), ys_eq, ep]⟩ (fun j Q hQ => by simp at hQ) (by rw [ys_ec (by decide), ys_ne (by decide), ys_ec (by decide), ys_ec (by decide), ys_eq]; rfl) (fun Q hQ => by cases hQ) (by simp)
  exact ⟨y', R, r1, r2, r3, r4, r5, r6, yF_tr F4' (yF_mo (yF_tr F9 r7) (fun _ _ z => Or.inl z))⟩
/-- what ear answers of the ears E -/
def ear_B (E : List (List Nat)) (i k res : Int32) : Prop := (i = -1 ∧ res = nI E.length) ∨ (i ≠ -1 ∧ ear_A E i k res)
theorem ear_y {E : List (List Nat)} (q2 : mY) (hE : ry_E q2 E) (he : q2.1 279 46 = nI E.length) (h9 : ∀ Q, Q ∈ E → Q.length ≤ 9) (h16 : E.length ≤ 16) (i k : Int32) : ∃ res, (if i = (-1 : Int32) then (some ((q2.1 279 46), q2)) else (if (f_X11_in i (0 : Int32) ((q2.1 279 46) - (1 : Int32))) = 0 then (some ((-1 : Int32), q2)) else (if k = (-1 : Int32) then (if m_in i 16 = true then (some ((q2.1 306 i.toNatClampNeg), q2)) else none) else (if m_in i 16 = true then (if (f_X11_in k (0 : Int32) ((q2.1 306 i.toNatClampNeg) - (1 : Int32))) = 0 then (some ((-1 : Int32), q2)) else (if m_in (((10 : Int32) * i) + k) 160 = true then (some ((q2.1 305 (((10 : Int32) * i) + k).toNatClampNeg), q2)) else none)) else none)))) = some (res, q2) ∧ ear_B E i k res := by
  rw [he]
  by_cases ci : i = -1
  · rw [if_pos ci]
    exact ⟨_, rfl, Or.inl ⟨ci, rfl⟩⟩
  · rw [if_neg ci]
    rcases in_cases i (n := E.length) (by omega) with ⟨j, j1, j2, j3⟩ | ⟨j1, j2⟩
    · obtain ⟨P, hP⟩ : ∃ P, E[j]? = some P := ⟨_, List.getElem?_eq_getElem j1⟩
      have hP9 := h9 P (List.mem_of_getElem? hP)
      rw [j3, if_neg (by decide), j2]
      by_cases ck : k = -1
      · rw [if_pos ck, if_pos (in_ok (by omega) (by decide)), cl (by omega), (hE j P hP).1]
        exact ⟨_, rfl, Or.inr ⟨j2 ▸ ci, Or.inl ⟨j, P, rfl, hP, Or.inl ⟨ck, rfl⟩⟩⟩⟩
      · rw [if_neg ck, if_pos (in_ok (by omega) (by decide)), cl (by omega), (hE j P hP).1]
        rcases in_cases k (n := P.length) (by omega) with ⟨t, t1, t2, t3⟩ | ⟨t1, t2⟩
        · obtain ⟨v, hv⟩ : ∃ v, P[t]? = some v := ⟨_, List.getElem?_eq_getElem t1⟩
          rw [t3, if_neg (by decide), t2, show (10 : Int32) * nI j = nI (10 * j) from pk_mul 10 j, nI_add, if_pos (in_ok (by omega) (by decide)), cl (by omega), (hE j P hP).2 t v hv]
          exact ⟨_, rfl, Or.inr ⟨j2 ▸ ci, Or.inl ⟨j, P, rfl, hP, Or.inr ⟨t2 ▸ ck, Or.inl ⟨t, v, rfl, hv, rfl⟩⟩⟩⟩⟩
        · rw [t2, if_pos rfl]
          exact ⟨_, rfl, Or.inr ⟨j2 ▸ ci, Or.inl ⟨j, P, rfl, hP, Or.inr ⟨ck, Or.inr ⟨t1, rfl⟩⟩⟩⟩⟩
    · rw [j2, if_pos rfl]
      exact ⟨_, rfl, Or.inr ⟨ci, Or.inr ⟨j1, rfl⟩⟩⟩
theorem ear_B_un {E : List (List Nat)} (hE : E.length ≤ 16) (hP : ∀ P, P ∈ E → P.length ≤ 100) {i k res res' : Int32} (h : ear_B E i k res) (h' : ear_B E i k res') : res = res' := by
  rcases h with ⟨a1, a2⟩ | ⟨a1, a2⟩
  · rcases h' with ⟨b1, b2⟩ | ⟨b1, b2⟩
    · rw [a2, b2]
    · exact absurd a1 b1
  · rcases h' with ⟨b1, b2⟩ | ⟨b1, b2⟩
    · exact absurd b1 a1
    · exact ear_A_un hE hP a2 b2
end E8
