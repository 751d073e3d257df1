/-! ===== the reference's ears ===== -/
section E5
variable {A C Lo : Nat → Nat → Prop} {B : Nat → Prop} {σ : Nat → Int32} {L : Int32} {np : Nat}
/-- loose links and what is IN, as they stand in the reference -/
def ry_Y (y : mY) (B : Nat → Prop) (Lo : Nat → Nat → Prop) (I : List Nat) : Prop :=
  (∀ l, bt (y.1 279 51) l = true ↔ l < sm (y.1 289) ∧ bt (y.1 289 3) l = true ∧ ∀ p q, p < 8 → q < 8 → sE (y.1 289) l p q → B p) ∧
  (∀ l, bt (y.1 279 50) l = true → bt (y.1 279 51) l = true) ∧
  (∀ p q, Lo p q ↔ p < 8 ∧ q < 8 ∧ ∃ l, bt (y.1 279 51) l = true ∧ ¬ bt (y.1 279 50) l = true ∧ sE (y.1 289) l p q) ∧
  y.1 279 48 = nI I.length ∧ (∀ p, bt (y.1 279 49) p = true ↔ p ∈ I) ∧ ∀ i p, I[i]? = some p → y.1 307 i = nI p
/-- the ears so far -/
def ry_E (y : mY) (E : List (List Nat)) : Prop := ∀ j Q, E[j]? = some Q → y.1 306 j = nI Q.length ∧ ∀ t v, Q[t]? = some v → y.1 305 (10 * j + t) = nI v
def ee_W (q c : Nat) : Prop := (q = 279 ∧ (c = 46 ∨ c = 48 ∨ c = 49 ∨ c = 50 ∨ c = 51 ∨ c = 53)) ∨ (305 ≤ q ∧ q ≤ 308)
theorem ee_289 {y y' : mY} (h : yF ee_W y y') : y'.1 289 = y.1 289 := yF_row h (fun c z => by rcases z with z | z <;> omega)
theorem ee_293 {y y' : mY} (h : yF ee_W y y') : y'.1 293 = y.1 293 := yF_row h (fun c z => by rcases z with z | z <;> omega)
theorem freeFrom_ok {I : List Nat} {p : Nat} (hp : p < 8) (y : mY) (hW : sW (y.1 289) np) (hy : ry_Y y B Lo I) : ∃ S, f_X11_freeFrom (nI p) y = some S ∧ ∀ q, bt S q = true ↔ Lo p q := by
  obtain ⟨y1, y2, y3, _⟩ := hy
  obtain ⟨w1, w2, w3, w4, w5, w6, w7, w8, w9⟩ := id hW
  unfold f_X11_freeFrom
  refine lp_ok (sm (y.1 289)) (fun n b (s : Int32) => f_X11_freeFrom_L4 (nI p) n s b y) (fun j s => ∀ q, bt s q = true ↔ q < 8 ∧ ∃ l, l < j ∧ bt (y.1 279 51) l = true ∧ ¬ bt (y.1 279 50) l = true ∧ sE (y.1 289) l p q) ?_ ?_ mF 0 0 (Nat.lt_of_le_of_lt w3 (by decide)) (by omega) (fun q => by rw [b_0]; exact ⟨fun z => (by cases z), fun ⟨_, l, l1, _⟩ => by omega⟩)
  · intro n s hI
    show ∃ r, f_X11_freeFrom_L4 (nI p) (n + 1) s (nI (sm (y.1 289))) y = some r ∧ _
    rw [f_X11_freeFrom_L4, if_pos (by rw [w2]; exact (nI_leI (by omega) (by omega)).mpr (Nat.le_refl _))]
    refine ⟨s, rfl, fun q => ?_⟩
    rw [hI q, y3 p q]
    constructor
    · rintro ⟨h1, l, l1, l2, l3, l4⟩
      exact ⟨hp, h1, l, l2, l3, l4⟩
    · rintro ⟨_, h1, l, l2, l3, l4⟩
      exact ⟨h1, l, ((y1 l).mp l2).1, l2, l3, l4⟩
  · intro n j s hj hI ih
    show ∃ r, f_X11_freeFrom_L4 (nI p) (n + 1) s (nI j) y = some r ∧ _
    rw [f_X11_freeFrom_L4, if_neg (by rw [w2]; exact fun z => absurd ((nI_leI (by omega) (by omega)).mp z) (by omega)), nI_1]
    have hbit : bt ((y.1 279 51) &&& ((y.1 279 50) ^^^ (-1 : Int32))) j = true ↔ bt (y.1 279 51) j = true ∧ ¬ bt (y.1 279 50) j = true := by
      rw [b_wos, Bool.and_eq_true]; simp
    obtain ⟨a, b, ha, hb, hab, e1, e2⟩ := w7 j hj
    have hse : ∀ q, q < 8 → (sE (y.1 289) j p q ↔ (p = a ∧ q = b) ∨ (p = b ∧ q = a)) := fun q hq => sE_iff (by omega) (by omega) hp hq e1 e2
    have step : ∀ s' : Int32, (∀ q, bt s' q = true ↔ bt s q = true ∨ (bt (y.1 279 51) j = true ∧ ¬ bt (y.1 279 50) j = true ∧ ((p = a ∧ q = b) ∨ (p = b ∧ q = a)))) → ∃ r, f_X11_freeFrom_L4 (nI p) n s' (nI (j + 1)) y = some r ∧ ∀ q, bt r q = true ↔ Lo p q := by
      intro s' hs'
      refine ih s' (fun q => ?_)
      rw [hs' q, hI q]
      constructor
      · rintro (⟨h1, l, l1, l2⟩ | ⟨h1, h2, h3⟩)
        · exact ⟨h1, l, by omega, l2⟩
        · have hq : q < 8 := by rcases h3 with ⟨_, z⟩ | ⟨_, z⟩ <;> omega
          exact ⟨hq, j, by omega, h1, h2, (hse q hq).mpr h3⟩
      · rintro ⟨h1, l, l1, l2, l3, l4⟩
        by_cases e : l = j
        · subst e
          exact Or.inr ⟨l2, l3, (hse q h1).mp l4⟩
        · exact Or.inl ⟨h1, l, by omega, l2, l3, l4⟩
    by_cases c1 : bt ((y.1 279 51) &&& ((y.1 279 50) ^^^ (-1 : Int32))) j = true
    · have hb1 := hbit.mp c1
      rw [if_neg (h11t (by omega) c1), a8, a24, if_pos (in_ok (by omega) (by decide)), m_jn, cl (by omega), cl (by omega), e1, e2]
      have second : ∀ v2 : Int32, (∀ q, bt v2 q = true ↔ bt s q = true ∨ (p = a ∧ q = b)) → ∃ r, (if m_in (nI (24 + j)) 72 = true then (if nI b = nI p then (if m_in (nI (8 + j)) 72 = true then (f_X11_freeFrom_L4 (nI p) n (v2 ||| ((1 : Int32) <<< (nI a &&& 31))) (nI (j + 1)) y) else none) else (f_X11_freeFrom_L4 (nI p) n v2 (nI (j + 1)) y)) else none) = some r ∧ ∀ q, bt r q = true ↔ Lo p q := by
        intro v2 hv2
        rw [if_pos (in_ok (by omega) (by decide))]
        by_cases c2 : b = p
        · rw [if_pos (by rw [c2]), if_pos (in_ok (by omega) (by decide))]
          refine step _ (fun q => ?_)
          rw [b_or, b_bit (by omega), Bool.or_eq_true, decide_eq_true_eq, hv2 q]
          constructor
          · rintro ((z | z) | z)
            · exact Or.inl z
            · exact Or.inr ⟨hb1.1, hb1.2, Or.inl z⟩
            · exact Or.inr ⟨hb1.1, hb1.2, Or.inr ⟨c2.symm, z⟩⟩
          · rintro (z | ⟨_, _, z | z⟩)
            · exact Or.inl (Or.inl z)
            · exact Or.inl (Or.inr z)
            · exact Or.inr z.2
        · rw [if_neg (fun z => c2 ((nI_eq (by omega) (by omega)).mp z))]
          refine step _ (fun q => ?_)
          rw [hv2 q]
          constructor
          · rintro (z | z)
            · exact Or.inl z
            · exact Or.inr ⟨hb1.1, hb1.2, Or.inl z⟩
          · rintro (z | ⟨_, _, z | z⟩)
            · exact Or.inl z
            · exact Or.inr z
            · exact absurd z.1.symm c2
      by_cases c2 : a = p
      · rw [if_pos (by rw [c2]), if_pos (in_ok (by omega) (by decide))]
        refine second _ (fun q => ?_)
        rw [b_or, b_bit (by omega), Bool.or_eq_true, decide_eq_true_eq]
        exact or_congr Iff.rfl ⟨fun z => ⟨c2.symm, z⟩, fun z => z.2⟩
      · rw [if_neg (fun z => c2 ((nI_eq (by omega) (by omega)).mp z))]
        refine second _ (fun q => ⟨Or.inl, fun z => z.elim id (fun w => absurd w.1.symm c2)⟩)
    · rw [if_pos (h11f (by omega) c1)]
      exact step s (fun q => ⟨Or.inl, fun z => z.elim id (fun w => absurd (hbit.mpr ⟨w.1, w.2.1⟩) c1)⟩)
/-- of links in a block: the class's C is the learnt links within B -/
theorem ry_link {I : List Nat} {a c : Nat} {y : mY} (hW : sW (y.1 289) np) (hC : ∀ p q, C p q ↔ sA (y.1 289) (y.1 289 3) p q ∧ B p ∧ B q) (hy : ry_Y y B Lo I) (hc : C a c) : ∃ l, l < 16 ∧ l < sm (y.1 289) ∧ bt (y.1 279 51) l = true ∧ sE (y.1 289) l a c ∧ ∀ k p q, bt (y.1 279 51) k = true → sE (y.1 289) k p q → p < 8 → q < 8 → (k = l ↔ (p = a ∧ q = c) ∨ (p = c ∧ q = a)) := by
  obtain ⟨w1, w2, w3, w4, w5, w6, w7, w8, w9⟩ := id hW
  obtain ⟨⟨ha, hcc, l, l1, l2, l3⟩, hBa, hBc⟩ := (hC a c).mp hc
  have hl := (w6 l l2).1
  obtain ⟨u, v, hu, hv, huv, e1, e2⟩ := w7 l hl
  refine ⟨l, l1, hl, (hy.1 l).mpr ⟨hl, l2, fun p q hp hq he => ?_⟩, l3, fun k p q k1 k2 hp hq => ⟨fun e => ?_, fun e => ?_⟩⟩
  · have q1 := (sE_iff (by omega) (by omega) ha hcc e1 e2).mp l3
    have q2 := (sE_iff (by omega) (by omega) hp hq e1 e2).mp he
    have : p = a ∨ p = c := by omega
    rcases this with z | z
    · rw [z]; exact hBa
    · rw [z]; exact hBc
  · subst e
    have q1 := (sE_iff (by omega) (by omega) ha hcc e1 e2).mp l3
    have q2 := (sE_iff (by omega) (by omega) hp hq e1 e2).mp k2
    omega
  · have hk := ((hy.1 k).mp k1).1
    rcases e with ⟨rfl, rfl⟩ | ⟨rfl, rfl⟩
    · exact w8 k l p q hk hl hp hq k2 l3
    · exact w8 k l p q hk hl hp hq k2 (sE_sy l3)
theorem ry_E_snoc {y : mY} {E : List (List Nat)} {P : List Nat} (h : ry_E y (E ++ [P])) : ry_E y E := fun j Q hQ => by
  have hj := (List.getElem?_eq_some_iff.mp hQ).1
  exact h j Q (by rw [List.getElem?_append_left hj]; exact hQ)
theorem goesTo_ok {I : List Nat} {a c : Nat} {E : List (List Nat)} {P : List Nat} (y : mY) (hW : sW (y.1 289) np) (hC : ∀ p q, C p q ↔ sA (y.1 289) (y.1 289 3) p q ∧ B p ∧ B q) (hy : ry_Y y B Lo I) (hc : C a c) (he : y.1 279 46 = nI E.length) (h16 : E.length < 16) (hP : P.length ≤ 8) (hE9 : ∀ Q, Q ∈ E → Q.length ≤ 9) (hE : ry_E y (E ++ [P])) : ∃ y', f_X11_goesTo (nI a) (nI c) y = some y' ∧ ry_Y y' B (lm Lo a c) I ∧ ry_E y' (E ++ [P ++ [c]]) ∧ yF ee_W y y' ∧ y'.1 279 46 = nI E.length ∧ y'.1 308 = y.1 308 ∧ y'.1 279 53 = y.1 279 53 := by
  obtain ⟨⟨ha8, hc8, _⟩, _⟩ := (hC a c).mp hc
  obtain ⟨l, l1, l2, l3, l4, l5⟩ := ry_link hW hC hy hc
  obtain ⟨y1, y2, y3, y4, y5, y6⟩ := id hy
  have hPat : (E ++ [P])[E.length]? = some P := by rw [List.getElem?_append_right (Nat.le_refl _)]; simp
  have e306 := (hE E.length P hPat).1
  unfold f_X11_goesTo
  rw [between_at y hW ha8 hc8 l2 l4, Option.bind_some, m_let, ys_ec (by decide), he, if_pos (in_ok h16 (by decide)), cl (by omega), ys_ne (by decide), e306, show (10 : Int32) * nI E.length = nI (10 * E.length) from pk_mul 10 _, nI_add, if_pos (in_ok (by omega) (by decide)), cl (by omega), m_let, ys_ne (by decide), ys_ec (by decide), he, if_pos (in_ok h16 (by decide)), if_pos (in_ok h16 (by decide)), cl (by omega), m_let, ys_ne (by decide), ys_ne (by decide), e306, nI_1]
  have hub : ∀ k, bt ((y.1 279 50) ||| ((1 : Int32) <<< (nI l &&& 31))) k = true ↔ bt (y.1 279 50) k = true ∨ k = l := fun k => by
    rw [b_or, b_bit (by omega), Bool.or_eq_true, decide_eq_true_eq]
  refine ⟨_, rfl, ⟨?_, ?_, ?_, ?_, ?_, ?_⟩, fun j Q hQ => ?_, yF_set (yF_set (yF_set (yF_rf _ _) (Or.inl ⟨rfl, by omega⟩)) (Or.inr ⟨by omega, by omega⟩)) (Or.inr ⟨by omega, by omega⟩), ?_, ?_, ?_⟩
  · rw [ys_ne (by decide), ys_ne (by decide), ys_ec (by decide), ys_ne (by decide), ys_ne (by decide), ys_ne (by decide)]; exact y1
  · rw [ys_ne (by decide), ys_ne (by decide), ys_eq, ys_ec (by decide)]
    intro k hk
    rcases (hub k).mp hk with z | z
    · exact y2 k z
    · rw [z]; exact l3
  · rw [ys_ne (by decide), ys_ne (by decide), ys_eq, ys_ec (by decide), ys_ne (by decide), ys_ne (by decide), ys_ne (by decide)]
    intro p q
    constructor
    · rintro ⟨z1, z2, z3⟩
      obtain ⟨p8, q8, k, k1, k2, k3⟩ := (y3 p q).mp z1
      refine ⟨p8, q8, k, k1, fun z => ?_, k3⟩
      rcases (hub k).mp z with w | w
      · exact k2 w
      · rcases (l5 k p q k1 k3 p8 q8).mp w with v | v
        · exact z2 v
        · exact z3 v
    · rintro ⟨p8, q8, k, k1, k2, k3⟩
      refine ⟨(y3 p q).mpr ⟨p8, q8, k, k1, fun z => k2 ((hub k).mpr (Or.inl z)), k3⟩, fun z => ?_, fun z => ?_⟩
      · exact k2 ((hub k).mpr (Or.inr ((l5 k p q k1 k3 p8 q8).mpr (Or.inl z))))
      · exact k2 ((hub k).mpr (Or.inr ((l5 k p q k1 k3 p8 q8).mpr (Or.inr z))))
  · rw [ys_ne (by decide), ys_ne (by decide), ys_ec (by decide)]; exact y4
  · rw [ys_ne (by decide), ys_ne (by decide), ys_ec (by decide)]; exact y5
  · intro i p hi
    rw [ys_ne (by decide), ys_ne (by decide), ys_ne (by decide)]; exact y6 i p hi
  · by_cases hj : j < E.length
    · rw [List.getElem?_append_left hj] at hQ
      have k := hE j Q (by rw [List.getElem?_append_left hj]; exact hQ)
      have hQ9 := hE9 Q (List.mem_of_getElem? hQ)
      refine ⟨?_, fun t v ht => ?_⟩
      · rw [ys_ec (by omega), ys_ne (by decide), ys_ne (by decide)]; exact k.1
      · have := (List.getElem?_eq_some_iff.mp ht).1
        rw [ys_ne (by decide), ys_ec (by omega), ys_ne (by decide)]; exact k.2 t v ht
    · rw [List.getElem?_append_right (by omega)] at hQ
      have hj0 : j - E.length = 0 := by
        refine Classical.byContradiction fun z => ?_
        rw [List.getElem?_eq_none (by simp; omega)] at hQ
        cases hQ
      rw [hj0] at hQ
      have eQ : P ++ [c] = Q := by simpa using hQ
      have ej : j = E.length := by omega
      subst eQ
      subst ej
      refine ⟨?_, fun t v ht => ?_⟩
      · rw [ys_eq, List.length_append]; rfl
      · rw [ys_ne (by decide), ys_at]
        rcases app_get ht with z | ⟨z1, z2⟩
        · have := get_lt z
          rw [if_neg (by omega), ys_ne (by decide)]
          exact (hE E.length P hPat).2 t v z
        · rw [if_pos (by omega), z2]
  · rw [ys_ne (by decide), ys_ne (by decide), ys_ec (by decide)]; exact he
  · rw [ys_ne (by decide), ys_ne (by decide), ys_ne (by decide)]
  · rw [ys_ne (by decide), ys_ne (by decide), ys_ec (by decide)]
/-! how far -/
def fr_Y (y : mY) (C : Nat → Nat → Prop) (N G : Nat → Prop) (b s k : Nat) : Prop := ∀ p, p < 8 → (∃ n, n ≤ k ∧ fa C N G b s n p ∧ y.1 308 p = nI n) ∨ ((∀ n, n ≤ k → ¬ fa C N G b s n p) ∧ y.1 308 p = 99)
def fy_W (q c : Nat) : Prop := q = 308
theorem farFrom_1 {I : List Nat} {b s : Nat} {O Gm : Int32} (hb : b < 8) (y : mY) (hN : ∀ p q, p < 8 → q < 8 → (A p q ↔ bt (y.1 293 (8 + p)) q = true)) (hC : ∀ p q, C p q ↔ A p q ∧ B p ∧ B q) (hB8 : ∀ p, B p → p < 8) (hO : ∀ p, bt O p = true ↔ B p) (hI : ∀ p, bt (y.1 279 49) p = true ↔ p ∈ I) (hIB : ∀ p, p ∈ I → B p) (hGm : ∀ p, bt Gm p = true ↔ gl I b p) (hs8 : s < 8) {Q : Option mY → Prop} (kk : mY → Option mY) (hk : ∀ y', yF fy_W y y' → fr_Y y' C (fun p => p ∈ I) (gl I b) b s 1 → Q (kk y')) : Q (f_X11_laysFarFrom_L3 (nI b) (nI s) O Gm mF 0 y kk) := by
  refine lp_up 8 (fun n j s' => f_X11_laysFarFrom_L3 (nI b) (nI s) O Gm n j s' kk) (fun j s' => yF fy_W y s' ∧ ∀ p, p < j → (∃ n, n ≤ 1 ∧ fa C (fun p => p ∈ I) (gl I b) b s n p ∧ s'.1 308 p = nI n) ∨ ((∀ n, n ≤ 1 → ¬ fa C (fun p => p ∈ I) (gl I b) b s n p) ∧ s'.1 308 p = 99)) Q ?_ ?_ mF 0 y (by decide) (by decide) ⟨yF_rf _ _, fun p hp => by omega⟩
  · intro n s' hI'
    show Q (f_X11_laysFarFrom_L3 (nI b) (nI s) O Gm (n + 1) (nI 8) s' kk)
    rw [f_X11_laysFarFrom_L3, if_pos (by decide)]
    exact hk s' hI'.1 hI'.2
  · intro n j s' hj hI' ih
    show Q (f_X11_laysFarFrom_L3 (nI b) (nI s) O Gm (n + 1) (nI j) s' kk)
    have e293 : s'.1 293 = y.1 293 := yF_row hI'.1 (fun c z => by have : (293 : Nat) = 308 := z; omega)
    have e49 : s'.1 279 49 = y.1 279 49 := hI'.1.1 279 49 (fun z => by have : (279 : Nat) = 308 := z; omega)
    rw [f_X11_laysFarFrom_L3, if_neg (k8f hj), a8, if_pos (in_ok (by omega) (by decide)), m_jn, cl (by omega), cl (by omega), nI_1, e293, e49]
    have put : ∀ v : Int32, ((fa C (fun p => p ∈ I) (gl I b) b s 1 j ∧ v = 1) ∨ (¬ fa C (fun p => p ∈ I) (gl I b) b s 1 j ∧ v = 99)) → Q (f_X11_laysFarFrom_L3 (nI b) (nI s) O Gm n (nI (j + 1)) (m_ys s' 308 j v) kk) := by
      intro v hv
      refine ih _ ⟨yF_set hI'.1 rfl, fun p hp => ?_⟩
      rw [ys_at]
      by_cases e : p = j
      · subst e
        rw [if_pos rfl]
        rcases hv with ⟨v1, v2⟩ | ⟨v1, v2⟩
        · exact Or.inl ⟨1, Nat.le_refl _, v1, v2⟩
        · refine Or.inr ⟨fun n hn hf => ?_, v2⟩
          have := fa_pos hf
          have : n = 1 := by omega
          subst this
          exact v1 hf
      · rw [if_neg e]; exact hI'.2 p (by omega)
    have fin : ∀ v2 : Int32, (∀ q, bt v2 q = true ∧ gl I b q ↔ B q ∧ A j q ∧ ¬ (j = s ∧ q = b) ∧ gl I b q) → Q (if (f_X11_has (O &&& ((y.1 279 49) ^^^ (-1 : Int32))) (nI j)) = 0 then (if m_in (nI j) 8 = true then (m_let (m_ys s' 308 j (99 : Int32)) fun y3 => (f_X11_laysFarFrom_L3 (nI b) (nI s) O Gm n (nI (j + 1)) y3 kk)) else none) else (if (v2 &&& Gm) = 0 then (if m_in (nI j) 8 = true then (m_let (m_ys s' 308 j (99 : Int32)) fun y4 => (f_X11_laysFarFrom_L3 (nI b) (nI s) O Gm n (nI (j + 1)) y4 kk)) else none) else (if m_in (nI j) 8 = true then (m_let (m_ys s' 308 j (1 : Int32)) fun y5 => (f_X11_laysFarFrom_L3 (nI b) (nI s) O Gm n (nI (j + 1)) y5 kk)) else none))) := by
      intro v2 hv2
      have hbit : bt (O &&& ((y.1 279 49) ^^^ (-1 : Int32))) j = true ↔ B j ∧ ¬ j ∈ I := by
        rw [b_wos, Bool.and_eq_true, hO j]
        refine and_congr Iff.rfl ?_
        rw [← hI j]; simp
      by_cases c1 : bt (O &&& ((y.1 279 49) ^^^ (-1 : Int32))) j = true
      · rw [if_neg (h11t (by omega) c1)]
        have h1 := hbit.mp c1
        by_cases c2 : (v2 &&& Gm) = 0
        · rw [if_pos c2, if_pos (in_ok hj (by decide)), m_let]
          rw [b_and0] at c2
          refine put 99 (Or.inr ⟨fun hf => ?_, rfl⟩)
          obtain ⟨_, g, g1, g2, g3⟩ := hf.1
          have k := (hC j g).mp g2
          exact c2 g ((hv2 g).mpr ⟨k.2.2, k.1, g3, g1⟩).1 ((hGm g).mpr g1)
        · rw [if_neg c2, if_pos (in_ok hj (by decide)), m_let]
          obtain ⟨g, g1, g2⟩ : ∃ g, bt v2 g = true ∧ bt Gm g = true := Classical.byContradiction fun hc => c2 (b_and0.mpr fun g g1 g2 => hc ⟨g, g1, g2⟩)
          have gg := (hGm g).mp g2
          have k := (hv2 g).mp ⟨g1, gg⟩
          exact put 1 (Or.inl ⟨⟨⟨h1.2, g, gg, (hC j g).mpr ⟨k.2.1, h1.1, k.1⟩, k.2.2.1⟩, fun m hm hd => by rw [show m = 0 by omega] at hd; exact hd⟩, rfl⟩)
      · rw [if_pos (h11f (by omega) c1), if_pos (in_ok hj (by decide)), m_let]
        refine put 99 (Or.inr ⟨fun hf => ?_, rfl⟩)
        obtain ⟨w, hw⟩ := dl_C hf.1
        exact c1 (hbit.mpr ⟨((hC j w).mp hw).2.1, dl_N hf.1⟩)
    by_cases cs0 : j = s
    · rw [if_pos (by rw [cs0])]
      refine fin _ (fun q => ?_)
      rw [b_wo (by omega), Bool.and_eq_true, b_and, Bool.and_eq_true, hO q]
      constructor
      · rintro ⟨⟨⟨z1, z2⟩, z3⟩, z4⟩
        exact ⟨z2, (hN j q hj (hB8 q z2)).mpr z1, fun z => by simp [z.2] at z3, z4⟩
      · rintro ⟨z1, z2, z3, z4⟩
        refine ⟨⟨⟨(hN j q hj (hB8 q z1)).mp z2, z1⟩, ?_⟩, z4⟩
        have : q ≠ b := fun z => z3 ⟨cs0, z⟩
        simp [this]
    · rw [if_neg (fun z => cs0 ((nI_eq (by omega) (by omega)).mp z))]
      refine fin _ (fun q => ?_)
      rw [b_and, Bool.and_eq_true, hO q]
      constructor
      · rintro ⟨⟨z1, z2⟩, z4⟩
        exact ⟨z2, (hN j q hj (hB8 q z2)).mpr z1, fun z => cs0 z.1, z4⟩
      · rintro ⟨z1, z2, z3, z4⟩
        exact ⟨⟨(hN j q hj (hB8 q z1)).mp z2, z1⟩, z4⟩
end E5
