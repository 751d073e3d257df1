/-! ===== the reference's ears: how far, leading one ===== -/
section E6
variable {A C Lo : Nat → Nat → Prop} {B : Nat → Prop} {np : Nat}
theorem fy_ne {q : Nat} (h : q ≠ 308) (c : Nat) : ¬ fy_W q c := h
theorem farFrom_2 {n p : Nat} (hn : 2 ≤ n) (hn8 : n < 9) (hp : p < 8) (y : mY) (hN : ∀ q, q < 8 → (A p q ↔ bt (y.1 293 (8 + p)) q = true)) (hA : ¬ A p p) {Q : Option mY → Prop} (kk : mY → Option mY) (hk : ∀ y', yF (fun q c => q = 308 ∧ c = p) y y' → (((∃ q, q < 8 ∧ A p q ∧ y.1 308 q = nI (n - 1)) ∧ y'.1 308 p = nI n) ∨ ((∀ q, q < 8 → A p q → y.1 308 q ≠ nI (n - 1)) ∧ y'.1 308 p = y.1 308 p)) → Q (kk y')) : Q (f_X11_laysFarFrom_L137 (nI n) (nI p) mF 0 y kk) := by
  refine lp_up 8 (fun m j s => f_X11_laysFarFrom_L137 (nI n) (nI p) m j s kk) (fun j s => yF (fun q c => q = 308 ∧ c = p) y s ∧ (((∃ q, q < 8 ∧ A p q ∧ y.1 308 q = nI (n - 1)) ∧ s.1 308 p = nI n) ∨ ((∀ q, q < j → A p q → y.1 308 q ≠ nI (n - 1)) ∧ s.1 308 p = y.1 308 p))) Q ?_ ?_ mF 0 y (by decide) (by decide) ⟨yF_rf _ _, Or.inr ⟨fun q hq => by omega, rfl⟩⟩
  · intro m s hI
    show Q (f_X11_laysFarFrom_L137 (nI n) (nI p) (m + 1) (nI 8) s kk)
    rw [f_X11_laysFarFrom_L137, if_pos (by decide)]
    exact hk s hI.1 hI.2
  · intro m j s hj hI ih
    show Q (f_X11_laysFarFrom_L137 (nI n) (nI p) (m + 1) (nI j) s kk)
    have e293 : s.1 293 = y.1 293 := yF_row hI.1 (fun c z => by omega)
    rw [f_X11_laysFarFrom_L137, if_neg (k8f hj), a8, if_pos (in_ok (by omega) (by decide)), cl (by omega), e293, nI_1]
    have skip : (A p j → y.1 308 j ≠ nI (n - 1)) → Q (f_X11_laysFarFrom_L137 (nI n) (nI p) m (nI (j + 1)) s kk) := by
      intro hno
      refine ih s ⟨hI.1, ?_⟩
      rcases hI.2 with z | z
      · exact Or.inl z
      · refine Or.inr ⟨fun q hq hA => ?_, z.2⟩
        by_cases e : q = j
        · subst e; exact hno hA
        · exact z.1 q (by omega) hA
    by_cases c1 : bt (y.1 293 (8 + p)) j = true
    · have hAj := (hN j hj).mpr c1
      have hjp : j ≠ p := fun e => hA (e ▸ hAj)
      rw [if_neg (h11t (by omega) c1), if_pos (in_ok hj (by decide)), cl (by omega), hI.1.1 308 j (fun z => hjp z.2), nI_p (by omega)]
      by_cases c2 : y.1 308 j = nI (n - 1)
      · rw [if_pos c2, if_pos (in_ok hp (by decide)), cl (by omega), m_let]
        exact ih _ ⟨yF_set hI.1 ⟨rfl, rfl⟩, Or.inl ⟨⟨j, hj, hAj, c2⟩, ys_eq _ _ _ _⟩⟩
      · rw [if_neg c2]
        exact skip (fun _ => c2)
    · rw [if_pos (h11f (by omega) c1)]
      exact skip (fun z => absurd ((hN j hj).mp z) c1)
theorem fr_val {y : mY} {N G : Nat → Prop} {b s k p n : Nat} (hk : k ≤ 8) (hn : n ≤ 8) (h : (∃ m, m ≤ k ∧ fa C N G b s m p ∧ y.1 308 p = nI m) ∨ ((∀ m, m ≤ k → ¬ fa C N G b s m p) ∧ y.1 308 p = 99)) (hnk : n ≤ k) : y.1 308 p = nI n ↔ fa C N G b s n p := by
  rcases h with ⟨m, m1, m2, m3⟩ | ⟨m1, m2⟩
  · rw [m3, nI_eq (by omega) (by omega)]
    exact ⟨fun e => e ▸ m2, fun e => fa_un m2 e⟩
  · rw [m2]
    refine ⟨fun e => ?_, fun e => absurd e (m1 n hnk)⟩
    have : (99 : Nat) = n := (nI_eq (a := 99) (by omega) (by omega)).mp e
    omega
theorem farFrom_3 {I : List Nat} {b s n : Nat} {O : Int32} (hn : 2 ≤ n) (hn8 : n < 8) (y : mY) (hN : ∀ p q, p < 8 → q < 8 → (A p q ↔ bt (y.1 293 (8 + p)) q = true)) (hA : ∀ p, ¬ A p p) (hC : ∀ p q, C p q ↔ A p q ∧ B p ∧ B q) (hB8 : ∀ p, B p → p < 8) (hO : ∀ p, bt O p = true ↔ B p) (hI : ∀ p, bt (y.1 279 49) p = true ↔ p ∈ I) (hf : fr_Y y C (fun p => p ∈ I) (gl I b) b s (n - 1)) {Q : Option mY → Prop} (kk : mY → Option mY) (hk : ∀ y', yF fy_W y y' → fr_Y y' C (fun p => p ∈ I) (gl I b) b s n → Q (kk y')) : Q (f_X11_laysFarFrom_L96 O (nI n) mF 0 y kk) := by
  refine lp_up 8 (fun m j s' => f_X11_laysFarFrom_L96 O (nI n) m j s' kk) (fun j s' => yF fy_W y s' ∧ ∀ p, p < 8 → (p < j → (∃ m, m ≤ n ∧ fa C (fun p => p ∈ I) (gl I b) b s m p ∧ s'.1 308 p = nI m) ∨ ((∀ m, m ≤ n → ¬ fa C (fun p => p ∈ I) (gl I b) b s m p) ∧ s'.1 308 p = 99)) ∧ (j ≤ p → s'.1 308 p = y.1 308 p)) Q ?_ ?_ mF 0 y (by decide) (by decide) ⟨yF_rf _ _, fun p hp => ⟨fun h => by omega, fun _ => rfl⟩⟩
  · intro m s' hI'
    show Q (f_X11_laysFarFrom_L96 O (nI n) (m + 1) (nI 8) s' kk)
    rw [f_X11_laysFarFrom_L96, if_pos (by decide)]
    exact hk s' hI'.1 (fun p hp => (hI'.2 p hp).1 hp)
  · intro m j s' hj hI' ih
    show Q (f_X11_laysFarFrom_L96 O (nI n) (m + 1) (nI j) s' kk)
    have e293 : s'.1 293 = y.1 293 := yF_row hI'.1 (fun c => fy_ne (by decide) c)
    have e49 : s'.1 279 49 = y.1 279 49 := hI'.1.1 279 49 (fy_ne (by decide) _)
    have ej : s'.1 308 j = y.1 308 j := (hI'.2 j hj).2 (Nat.le_refl _)
    rw [f_X11_laysFarFrom_L96, if_neg (k8f hj), if_pos (in_ok hj (by decide)), cl (by omega), ej, e49, nI_1]
    have next : ∀ s2 : mY, yF fy_W y s2 → (∀ p, p ≠ j → s2.1 308 p = s'.1 308 p) → ((∃ m, m ≤ n ∧ fa C (fun p => p ∈ I) (gl I b) b s m j ∧ s2.1 308 j = nI m) ∨ ((∀ m, m ≤ n → ¬ fa C (fun p => p ∈ I) (gl I b) b s m j) ∧ s2.1 308 j = 99)) → Q (f_X11_laysFarFrom_L96 O (nI n) m (nI (j + 1)) s2 kk) := by
      intro s2 F2 h2 hj2
      refine ih s2 ⟨F2, fun p hp => ⟨fun h => ?_, fun h => ?_⟩⟩
      · by_cases e : p = j
        · subst e; exact hj2
        · rw [h2 p e]; exact (hI'.2 p hp).1 (by omega)
      · rw [h2 p (by omega)]; exact (hI'.2 p hp).2 (by omega)
    rcases hf j hj with ⟨w, w1, w2, w3⟩ | ⟨w1, w2⟩
    · have hw := fa_pos w2
      rw [if_neg (fun z => by
        have : w = 99 := (nI_eq (b := 99) (by omega) (by omega)).mp (w3.symm.trans z)
        omega)]
      exact next s' hI'.1 (fun _ _ => rfl) (Or.inl ⟨w, by omega, w2, ej.trans w3⟩)
    · rw [if_pos w2]
      have hbit : bt (O &&& ((y.1 279 49) ^^^ (-1 : Int32))) j = true ↔ B j ∧ ¬ j ∈ I := by
        rw [b_wos, Bool.and_eq_true, hO j]
        refine and_congr Iff.rfl ?_
        rw [← hI j]; simp
      by_cases c1 : bt (O &&& ((y.1 279 49) ^^^ (-1 : Int32))) j = true
      · have h1 := hbit.mp c1
        rw [if_neg (h11t (by omega) c1)]
        refine farFrom_2 (A := A) (Q := Q) hn (by omega) hj s' (fun q hq => by rw [e293]; exact hN j q hj hq) (hA j) _ ?_
        intro y9 F9 h9
        have val : ∀ q, q < 8 → (s'.1 308 q = nI (n - 1) ↔ fa C (fun p => p ∈ I) (gl I b) b s (n - 1) q) := fun q hq => by
          by_cases cq : q < j
          · exact fr_val (k := n) (by omega) (by omega) ((hI'.2 q hq).1 cq) (by omega)
          · rw [(hI'.2 q hq).2 (by omega)]
            exact fr_val (k := n - 1) (by omega) (by omega) (hf q hq) (Nat.le_refl _)
        have key : (∃ q, q < 8 ∧ A j q ∧ s'.1 308 q = nI (n - 1)) ↔ fa C (fun p => p ∈ I) (gl I b) b s n j := by
          constructor
          · rintro ⟨q, q1, q2, q3⟩
            have hfq := (val q q1).mp q3
            obtain ⟨w, hw⟩ := dl_C hfq.1
            have hd : dl C (fun p => p ∈ I) (gl I b) b s (n - 1 + 1) j := dl_st hfq.1 ((hC j q).mpr ⟨q2, h1.1, ((hC q w).mp hw).2.1⟩) h1.2
            rw [show n - 1 + 1 = n by omega] at hd
            obtain ⟨m, hm⟩ := fa_ex hd
            have : ¬ m ≤ n - 1 := fun z => w1 m z hm
            have : ¬ n < m := fun z => hm.2 n z hd
            have : m = n := by omega
            rw [← this]; exact hm
          · intro h
            obtain ⟨q, q1, q2⟩ : ∃ q, C j q ∧ fa C (fun p => p ∈ I) (gl I b) b s (n - 1) q := by
              have := fa_next (n := n - 2) (by rw [show n - 2 + 2 = n by omega]; exact h)
              rw [show n - 2 + 1 = n - 1 by omega] at this
              exact this
            have k := (hC j q).mp q1
            exact ⟨q, hB8 q k.2.2, k.1, (val q (hB8 q k.2.2)).mpr q2⟩
        refine next y9 (yF_tr hI'.1 (yF_mo F9 (fun _ _ z => z.1))) (fun p hp => F9.1 308 p (fun z => hp z.2)) ?_
        rcases h9 with ⟨a1, a2⟩ | ⟨a1, a2⟩
        · exact Or.inl ⟨n, Nat.le_refl _, key.mp a1, a2⟩
        · refine Or.inr ⟨fun m hm hfm => ?_, by rw [a2, ej]; exact w2⟩
          by_cases e : m = n
          · subst e
            obtain ⟨q, q1, q2, q3⟩ := key.mpr hfm
            exact a1 q q1 q2 q3
          · exact w1 m (by omega) hfm
      · rw [if_pos (h11f (by omega) c1)]
        refine next s' hI'.1 (fun _ _ => rfl) (Or.inr ⟨fun m _ hfm => ?_, ej.trans w2⟩)
        obtain ⟨w, hw⟩ := dl_C hfm.1
        exact c1 (hbit.mpr ⟨((hC j w).mp hw).2.1, dl_N hfm.1⟩)
def fx_W (q c : Nat) : Prop := q = 308 ∨ (q = 279 ∧ c = 53)
theorem farFrom_ok {I : List Nat} {b s : Nat} {O Gm : Int32} (hb : b < 8) (y : mY) (hN : ∀ p q, p < 8 → q < 8 → (A p q ↔ bt (y.1 293 (8 + p)) q = true)) (hA : ∀ p, ¬ A p p) (hC : ∀ p q, C p q ↔ A p q ∧ B p ∧ B q) (hB8 : ∀ p, B p → p < 8) (hO : ∀ p, bt O p = true ↔ B p) (hI : ∀ p, bt (y.1 279 49) p = true ↔ p ∈ I) (hIB : ∀ p, p ∈ I → B p) (hGm : ∀ p, bt Gm p = true ↔ gl I b p) (hs8 : s < 8) : ∃ y', f_X11_laysFarFrom (nI b) (nI s) O Gm y = some y' ∧ yF fx_W y y' ∧ fr_Y y' C (fun p => p ∈ I) (gl I b) b s 7 ∧ y'.1 279 53 = nI s := by
  unfold f_X11_laysFarFrom
  refine farFrom_1 (A := A) (C := C) (B := B) (Q := fun o => ∃ y', o = some y' ∧ yF fx_W y y' ∧ fr_Y y' C (fun p => p ∈ I) (gl I b) b s 7 ∧ y'.1 279 53 = nI s) hb y hN hC hB8 hO hI hIB hGm hs8 _ ?_
  intro y6 F6 h6
  have key : ∀ m n k (s' : mY), n + m = 8 → 2 ≤ n → m < k → yF fy_W y s' → fr_Y s' C (fun p => p ∈ I) (gl I b) b s (n - 1) → ∃ y', f_X11_laysFarFrom_L86 (nI s) O k (nI n) s' = some y' ∧ yF fx_W y y' ∧ fr_Y y' C (fun p => p ∈ I) (gl I b) b s 7 ∧ y'.1 279 53 = nI s := by
    intro m
    induction m with
    | zero =>
      intro n k s' h1 h2 h3 hF hf
      cases k with
      | zero => omega
      | succ k =>
        have e : n = 8 := by omega
        subst e
        rw [f_X11_laysFarFrom_L86, if_pos (by decide), m_let]
        refine ⟨_, rfl, yF_set (yF_mo hF (fun _ _ z => Or.inl z)) (Or.inr ⟨rfl, rfl⟩), fun p hp => ?_, ys_eq _ _ _ _⟩
        rw [ys_ne (by decide)]
        exact hf p hp
    | succ m ih =>
      intro n k s' h1 h2 h3 hF hf
      cases k with
      | zero => omega
      | succ k =>
        rw [f_X11_laysFarFrom_L86, if_neg (k8f (by omega)), nI_1]
        have e293 : s'.1 293 = y.1 293 := yF_row hF (fun c => fy_ne (by decide) c)
        have e49 : s'.1 279 49 = y.1 279 49 := hF.1 279 49 (fy_ne (by decide) _)
        refine farFrom_3 (A := A) (C := C) (B := B) (Q := fun o => ∃ y', o = some y' ∧ yF fx_W y y' ∧ fr_Y y' C (fun p => p ∈ I) (gl I b) b s 7 ∧ y'.1 279 53 = nI s) h2 (by omega) s' (by rw [e293]; exact hN) hA hC hB8 hO (by rw [e49]; exact hI) hf _ ?_
        intro y10 F10 h10
        exact ih (n + 1) k y10 (by omega) (by omega) (by omega) (yF_tr hF F10) (by rw [show n + 1 - 1 = n by omega]; exact h10)
  exact key 6 2 mF y6 (by omega) (by omega) (by decide) F6 h6
theorem canGo_ok {I : List Nat} {b s f a j : Nat} {Gm : Int32} (ha : a < 8) (hj : j < 8) (hb : b < 8) (hbI : b ∈ I) (y : mY) (hN : ∀ p q, p < 8 → q < 8 → (A p q ↔ bt (y.1 293 (8 + p)) q = true)) (hC : ∀ p q, C p q ↔ A p q ∧ B p ∧ B q) (hIB : ∀ p, p ∈ I → B p) (hGm : ∀ p, bt Gm p = true ↔ gl I b p) (hf : fr_Y y C (fun p => p ∈ I) (gl I b) b s 7) (hs : y.1 279 53 = nI s) (hs8 : s < 8) (hfa : fa C (fun p => p ∈ I) (gl I b) b s f a) (hf7 : f ≤ 7) : ((if f = 1 then gl I b j ∧ xc C b s a j else C a j ∧ fa C (fun p => p ∈ I) (gl I b) b s (f - 1) j) ∧ f_X11_canGo (nI b) (nI a) (nI j) Gm y = some 1) ∨ (¬ (if f = 1 then gl I b j ∧ xc C b s a j else C a j ∧ fa C (fun p => p ∈ I) (gl I b) b s (f - 1) j) ∧ f_X11_canGo (nI b) (nI a) (nI j) Gm y = some 0) := by
  obtain ⟨w, hw⟩ := dl_C hfa.1
  have haB := ((hC a w).mp hw).2.1
  have hfp := fa_pos hfa
  have ea : y.1 308 a = nI f := (fr_val (k := 7) (by omega) (by omega) (hf a ha) hf7).mpr hfa
  unfold f_X11_canGo
  rw [a8, if_pos (in_ok (by omega) (by decide)), cl (by omega)]
  by_cases c1 : bt (y.1 293 (8 + a)) j = true
  · have hA := (hN a j ha hj).mpr c1
    rw [if_neg (h11t (by omega) c1), m_jn, hs]
    have cont : ¬ (a = s ∧ j = b) → ((if f = 1 then gl I b j ∧ xc C b s a j else C a j ∧ fa C (fun p => p ∈ I) (gl I b) b s (f - 1) j) ∧ (if m_in (nI a) 8 = true then (if (y.1 308 (nI a).toNatClampNeg) = (1 : Int32) then (if m_nr 1 (f_X11_has Gm (nI j)) = true then (some (f_X11_has Gm (nI j))) else none) else (if m_in (nI j) 8 = true then (if m_in (nI a) 8 = true then (if (y.1 308 (nI j).toNatClampNeg) = ((y.1 308 (nI a).toNatClampNeg) - (1 : Int32)) then (some (1 : Int32)) else (some (0 : Int32))) else none) else none)) else none) = some 1) ∨ (¬ (if f = 1 then gl I b j ∧ xc C b s a j else C a j ∧ fa C (fun p => p ∈ I) (gl I b) b s (f - 1) j) ∧ (if m_in (nI a) 8 = true then (if (y.1 308 (nI a).toNatClampNeg) = (1 : Int32) then (if m_nr 1 (f_X11_has Gm (nI j)) = true then (some (f_X11_has Gm (nI j))) else none) else (if m_in (nI j) 8 = true then (if m_in (nI a) 8 = true then (if (y.1 308 (nI j).toNatClampNeg) = ((y.1 308 (nI a).toNatClampNeg) - (1 : Int32)) then (some (1 : Int32)) else (some (0 : Int32))) else none) else none)) else none) = some 0) := by
      intro hne
      rw [if_pos (in_ok ha (by decide)), cl (by omega), cl (by omega), ea]
      by_cases c2 : f = 1
      · rw [if_pos c2, if_pos (by rw [c2]; rfl), if_pos (nr1_has (by omega) _), h11 (by omega)]
        by_cases c3 : bt Gm j = true
        · rw [if_pos c3]
          have hg := (hGm j).mp c3
          exact Or.inl ⟨⟨hg, (hC a j).mpr ⟨hA, haB, hIB j hg.1⟩, hne⟩, rfl⟩
        · rw [if_neg c3]
          exact Or.inr ⟨fun z => c3 ((hGm j).mpr z.1), rfl⟩
      · rw [if_neg c2, if_neg (show ¬ nI f = (1 : Int32) from fun z => c2 ((nI_eq (b := 1) (by omega) (by omega)).mp z)), if_pos (in_ok hj (by decide)), if_pos (in_ok ha (by decide)), nI_p (by omega)]
        have v := fr_val (k := 7) (n := f - 1) (by omega) (by omega) (hf j hj) (by omega)
        by_cases c3 : y.1 308 j = nI (f - 1)
        · rw [if_pos c3]
          have hfj := v.mp c3
          obtain ⟨w, hw⟩ := dl_C hfj.1
          exact Or.inl ⟨⟨(hC a j).mpr ⟨hA, haB, ((hC j w).mp hw).2.1⟩, hfj⟩, rfl⟩
        · rw [if_neg c3]
          exact Or.inr ⟨fun z => c3 (v.mpr z.2), rfl⟩
    by_cases c4 : a = s
    · rw [if_pos (show nI a = nI s by rw [c4])]
      by_cases c5 : j = b
      · rw [if_pos (show nI j = nI b by rw [c5])]
        refine Or.inr ⟨fun z => ?_, rfl⟩
        by_cases c2 : f = 1
        · rw [if_pos c2] at z
          exact z.2.2 ⟨c4, c5⟩
        · rw [if_neg c2] at z
          exact dl_N z.2.1 (c5 ▸ hbI)
      · rw [if_neg (show ¬ nI j = nI b from fun z => c5 ((nI_eq (by omega) (by omega)).mp z))]
        exact cont (fun z => c5 z.2)
    · rw [if_neg (show ¬ nI a = nI s from fun z => c4 ((nI_eq (by omega) (by omega)).mp z))]
      exact cont (fun z => c4 z.1)
  · rw [if_pos (h11f (by omega) c1)]
    refine Or.inr ⟨fun z => ?_, rfl⟩
    have : C a j := by
      by_cases c2 : f = 1
      · rw [if_pos c2] at z; exact z.2.1
      · rw [if_neg c2] at z; exact z.1
    exact c1 ((hN a j ha hj).mp ((hC a j).mp this).1)
theorem firstGo {a b q0 : Nat} {Gm : Int32} (y : mY) (P : Nat → Prop) (hq : lo1 P q0) (hq8 : q0 < 8) (h : ∀ j, j < 8 → (P j ∧ f_X11_canGo (nI b) (nI a) (nI j) Gm y = some 1) ∨ (¬ P j ∧ f_X11_canGo (nI b) (nI a) (nI j) Gm y = some 0)) (kk : Int32 → Option mY) : f_X11_laysEar_L141 (nI b) (nI a) Gm mF 0 y kk = kk (nI q0) := by
  refine lp_up q0 (fun n j (_ : Unit) => f_X11_laysEar_L141 (nI b) (nI a) Gm n j y kk) (fun _ _ => True) (fun o => o = kk (nI q0)) ?_ ?_ mF 0 () (Nat.lt_trans hq8 (by decide)) (by omega) trivial
  · intro n _ _
    show f_X11_laysEar_L141 (nI b) (nI a) Gm (n + 1) (nI q0) y kk = _
    rw [f_X11_laysEar_L141]
    rcases h q0 hq8 with ⟨_, k⟩ | ⟨k, _⟩
    · rw [k, Option.bind_some, if_neg (by decide)]
    · exact absurd hq.1 k
  · intro n j _ hj _ ih
    show f_X11_laysEar_L141 (nI b) (nI a) Gm (n + 1) (nI j) y kk = _
    rw [f_X11_laysEar_L141]
    rcases h j (by omega) with ⟨k, _⟩ | ⟨_, k⟩
    · exact absurd k (hq.2 j hj)
    · rw [k, Option.bind_some, if_pos rfl, nI_1]
      exact ih () trivial
end E6
