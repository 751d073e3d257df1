/-! ===== the reference's laysOrder and knowsHops ===== -/
section R2
variable {A : Nat → Nat → Prop} {B : Nat → Prop} {h t k : Nat} {f : Nat → Nat}
theorem od_W_row {q c : Nat} (hq : q ≠ 299) : ¬ od_W k q c := fun z => hq z.1
theorem laysOrder_1 {n : Nat} {y : mY} (hk : k < 64) (h1 : y.1 296 k = nI n) (h2 : y.1 297 k = nI h) (h3 : y.1 298 k = nI t) (hnb : ∀ i, bt (nI n) i = true ↔ B i) (hB : ∀ c, B c → c < 8) (hh : B h) (ht : B t) (hht : h ≠ t) {Q : Option mY → Prop} (kk : mY → Option mY) (hq : ∀ y', yF (od_W k) y y' → (∀ c, c < 8 → (B c ∧ c ≠ h ∧ c ≠ t) → y'.1 299 (8 * k + (1 + g_n (fun c => B c ∧ c ≠ h ∧ c ≠ t) c)) = nI c) → Q (kk y')) : Q (f_X11_laysOrder_L21 (nI k) (nI (8 * k)) mF 1 0 y kk) := by
  have hh8 := hB h hh
  have ht8 := hB t ht
  have hmid := g_n_mid hB hh ht hht
  have hb := g_n_bound (P := B) 8
  refine lp_up 8 (fun n b (s : Int32 × mY) => f_X11_laysOrder_L21 (nI k) (nI (8 * k)) n s.1 b s.2 kk) (fun j s => s.1 = nI (1 + g_n (fun c => B c ∧ c ≠ h ∧ c ≠ t) j) ∧ yF (od_W k) y s.2 ∧ ∀ c, c < j → (B c ∧ c ≠ h ∧ c ≠ t) → s.2.1 299 (8 * k + (1 + g_n (fun c => B c ∧ c ≠ h ∧ c ≠ t) c)) = nI c) Q ?_ ?_ mF 0 (1, y) (by decide) (by decide) ⟨rfl, yF_rf _ _, fun c hc => by omega⟩
  · intro n' s hI
    show Q (f_X11_laysOrder_L21 (nI k) (nI (8 * k)) (n' + 1) s.1 (nI 8) s.2 kk)
    rw [f_X11_laysOrder_L21, if_pos (by decide)]
    exact hq s.2 hI.2.1 hI.2.2
  · intro n' j s hj hI ih
    show Q (f_X11_laysOrder_L21 (nI k) (nI (8 * k)) (n' + 1) s.1 (nI j) s.2 kk)
    obtain ⟨i1, i2, i3⟩ := hI
    have e1 : s.2.1 296 k = nI n := (i2.1 296 k (od_W_row (by decide))).trans h1
    have e2 : s.2.1 297 k = nI h := (i2.1 297 k (od_W_row (by decide))).trans h2
    have e3 : s.2.1 298 k = nI t := (i2.1 298 k (od_W_row (by decide))).trans h3
    have skip : ¬ (B j ∧ j ≠ h ∧ j ≠ t) → Q (f_X11_laysOrder_L21 (nI k) (nI (8 * k)) n' s.1 (nI (j + 1)) s.2 kk) := by
      intro hno
      refine ih (s.1, s.2) ⟨?_, i2, fun c hc hM => i3 c ?_ hM⟩
      · rw [g_n_stay j hno]; exact i1
      · have : c ≠ j := fun e => hno (e ▸ hM)
        omega
    rw [f_X11_laysOrder_L21, if_neg (k8f hj), if_pos (in_ok hk (by decide)), cl (by omega), e1, nI_1]
    by_cases c1 : bt (nI n) j = true
    · rw [if_neg (h11t (by omega) c1), if_pos (in_ok hk (by decide)), e2]
      by_cases c2 : j = h
      · rw [if_pos (by rw [c2])]
        exact skip (fun z => z.2.1 c2)
      · rw [if_neg (fun z => c2 ((nI_eq (by omega) (by omega)).mp z)), if_pos (in_ok hk (by decide)), e3]
        by_cases c3 : j = t
        · rw [if_pos (by rw [c3])]
          exact skip (fun z => z.2.2 c3)
        · have hM : B j ∧ j ≠ h ∧ j ≠ t := ⟨(hnb j).mp c1, c2, c3⟩
          have hlt := g_n_lt2 (P := fun c => B c ∧ c ≠ h ∧ c ≠ t) hM hj
          rw [if_neg (fun z => c3 ((nI_eq (by omega) (by omega)).mp z)), i1, nI_add, if_pos (in_ok (by omega) (by decide)), cl (by omega), m_let, nI_1]
          refine ih (_, _) ⟨?_, yF_set i2 ⟨rfl, by omega, by omega⟩, fun c hc hMc => ?_⟩
          · show nI (1 + g_n (fun c => B c ∧ c ≠ h ∧ c ≠ t) j + 1) = _
            rw [g_n_step j hM]; rfl
          · show (m_ys s.2 299 (8 * k + (1 + g_n (fun c => B c ∧ c ≠ h ∧ c ≠ t) j)) (nI j)).1 299 _ = _
            rw [ys_at]
            by_cases e : c = j
            · rw [e, if_pos rfl]
            · have : g_n (fun c => B c ∧ c ≠ h ∧ c ≠ t) c ≠ g_n (fun c => B c ∧ c ≠ h ∧ c ≠ t) j := fun z => e (g_n_inj (P := fun c => B c ∧ c ≠ h ∧ c ≠ t) hMc hM z)
              rw [if_neg (by omega)]
              exact i3 c (by omega) hMc
    · rw [if_pos (h11f (by omega) c1)]
      exact skip (fun z => c1 ((hnb j).mpr z.1))
theorem laysOrder_2 {y : mY} (hk : k < 64) (hA : ∀ a b, A a b → A b a) (hT : g_T A B) (hB : ∀ c, B c → c < 8) (hh : B h) (ht : B t) (hht : h ≠ t) (hE : nA (fun p => y.1 293 (8 * 1 + p)) = A) (hr : od_r B h t (g_n B 8) f) (hR : rr_R y k (g_n B 8) f) (hlow : ∀ g, od_r B h t (g_n B 8) g → od_k A (g_n B 8) g → lx (g_n B 8) f g) : ∃ y', f_X11_laysOrder_L115 (nI (8 * k)) (nI (g_n B 8)) mF y = some y' ∧ yF (od_W k) y y' ∧ ∃ f, od_1 A B h t (g_n B 8) f ∧ rr_R y' k (g_n B 8) f := by
  have hb := g_n_bound (P := B) 8
  have hmid := g_n_mid hB hh ht hht
  obtain ⟨F, hF⟩ := od_ex hA hT hB hh ht hht
  have dig : ∀ f, od_r B h t (g_n B 8) f → ∀ i, 0 < i → i ≤ g_n B 8 - 2 → (B (f i) ∧ f i ≠ h ∧ f i ≠ t) ∧ g_n (fun c => B c ∧ c ≠ h ∧ c ≠ t) (f i) < 6 := by
    intro f hr i h1 h2
    have hM : B (f i) ∧ f i ≠ h ∧ f i ≠ t := ⟨hr.2.2.2.1 i (by omega), fun e => by have := hr.2.2.2.2.1 i 0 (by omega) (by omega) (e.trans hr.2.1.symm); omega, fun e => by have := hr.2.2.2.2.1 i (g_n B 8 - 1) (by omega) (by omega) (e.trans hr.2.2.1.symm); omega⟩
    have := g_n_lt2 (P := fun c => B c ∧ c ≠ h ∧ c ≠ t) hM (hB _ hM.1)
    exact ⟨hM, by omega⟩
  have top : ∀ f, od_r B h t (g_n B 8) f → nx_v (fun c => B c ∧ c ≠ h ∧ c ≠ t) f (g_n B 8 - 2) < 46656 := fun f hr => by
    have h1 := nx_v_lt (M := fun c => B c ∧ c ≠ h ∧ c ≠ t) (f := f) (g_n B 8 - 2) (fun i h1 h2 => (dig f hr i h1 h2).2)
    have h2 : 6 ^ (g_n B 8 - 2) ≤ 6 ^ 6 := Nat.pow_le_pow_right (by decide) (by omega)
    have h3 : 6 ^ 6 = 46656 := by decide
    omega
  have key : ∀ n (f : Nat → Nat) (s : mY), 46656 - nx_v (fun c => B c ∧ c ≠ h ∧ c ≠ t) f (g_n B 8 - 2) < n → yF (od_W k) y s → od_r B h t (g_n B 8) f → rr_R s k (g_n B 8) f → (∀ g, od_r B h t (g_n B 8) g → od_k A (g_n B 8) g → lx (g_n B 8) f g) → ∃ y', f_X11_laysOrder_L115 (nI (8 * k)) (nI (g_n B 8)) n s = some y' ∧ yF (od_W k) y y' ∧ ∃ f, od_1 A B h t (g_n B 8) f ∧ rr_R y' k (g_n B 8) f := by
    intro n
    induction n with
    | zero => intro f s h1; omega
    | succ n ih =>
      intro f s h1 hFr hr hR hlow
      have hE' : nA (fun p => s.1 293 (8 * 1 + p)) = A := by rw [yF_row hFr (q := 293) (fun c => od_W_row (by decide))]; exact hE
      rw [f_X11_laysOrder_L115]
      rcases isOrder_ok hk hb hB hr hR hE' with ⟨o1, o2⟩ | ⟨o1, o2⟩
      · rw [o2, Option.bind_some, if_neg (by decide)]
        exact ⟨s, rfl, hFr, f, ⟨hr, o1, hlow⟩, hR⟩
      · rw [o2, Option.bind_some, if_pos rfl, nI_1, show nI (g_n B 8) - (2 : Int32) = nI (g_n B 8 - 2) from pk_sub (b := 2) (by omega)]
        have strict : ∀ g, od_r B h t (g_n B 8) g → od_k A (g_n B 8) g → ∃ d, d < g_n B 8 ∧ (∀ j, j < d → f j = g j) ∧ f d < g d := by
          intro g hg hgk
          rcases hlow g hg hgk with e | e
          · exact absurd (od_k_cong (fun i hi => (e i hi).symm) hgk) o1
          · exact e
        obtain ⟨d, d1, d2, d3⟩ := strict F hF.1 hF.2.1
        obtain ⟨i, i1, i2, i3, i4⟩ := nx_i_ex hr hF.1 d1 d2 d3
        obtain ⟨j, j1, j2, j3, j4⟩ := nx_j_ex hr i2 i3
        have hf8 : ∀ i, i < g_n B 8 → f i < 8 := fun i hi => hB _ (hr.2.2.2.1 i hi)
        obtain ⟨y', n1, n2, n3⟩ := nextRow_ok hk hb hf8 hR i1 i2 i3 i4 j1 j2 j3 j4
        rw [n1, Option.bind_some]
        have hr' := nx_r hr i1 j1 j2
        refine ih (fun q => f (nx_p (g_n B 8) i j q)) y' ?_ (yF_tr hFr n2) hr' n3 (fun g hg hgk => ?_)
        · have low : ∀ e, e < i → f e = f (nx_p (g_n B 8) i j e) := fun e hei => by
            unfold nx_p
            rw [if_neg (by omega), if_neg (by omega)]
          have ati : nx_p (g_n B 8) i j i = j := by
            unfold nx_p
            rw [if_neg (by omega), if_pos rfl]
          have := nx_v_mono (M := fun c => B c ∧ c ≠ h ∧ c ≠ t) (f := f) (g := fun q => f (nx_p (g_n B 8) i j q)) i1 low (by
            show g_n _ (f i) < g_n _ (f (nx_p (g_n B 8) i j i))
            rw [ati]
            exact g_n_lt2 (P := fun c => B c ∧ c ≠ h ∧ c ≠ t) (dig f hr i i1 (by omega)).1 j3) (g_n B 8 - 2) (by omega) (fun l l1 l2 => (dig f hr l l1 l2).2)
          have := top _ hr'
          omega
        · obtain ⟨d, d1, d2, d3⟩ := strict g hg hgk
          exact nx_next hr i1 j1 j2 i4 j3 j4 hg d1 d2 d3
  refine key mF f y (Nat.lt_of_le_of_lt (Nat.sub_le _ _) (by decide)) (yF_rf _ _) hr hR hlow
theorem laysOrder_ok {n : Nat} {y : mY} (hk : k < 64) (hA : ∀ a b, A a b → A b a) (hT : g_T A B) (hB : ∀ c, B c → c < 8) (hh : B h) (ht : B t) (hht : h ≠ t) (hE : nA (fun p => y.1 293 (8 * 1 + p)) = A) (h1 : y.1 296 k = nI n) (h2 : y.1 297 k = nI h) (h3 : y.1 298 k = nI t) (hnb : ∀ i, bt (nI n) i = true ↔ B i) (hn : n < 256) : ∃ y', f_X11_laysOrder (nI k) y = some y' ∧ yF (od_W k) y y' ∧ ∃ f, od_1 A B h t (g_n B 8) f ∧ rr_R y' k (g_n B 8) f := by
  have hh8 := hB h hh
  have ht8 := hB t ht
  have hb := g_n_bound (P := B) 8
  have hmid := g_n_mid hB hh ht hht
  have ecnt : g_n (bS (nI n)) 8 = g_n B 8 := g_n_cong 8 (fun c _ => hnb c)
  unfold f_X11_laysOrder
  rw [if_pos (in_ok hk (by decide)), cl (by omega), h1, bitsOf_ok (b8_nI hn), Option.bind_some, ecnt, show (8 : Int32) * nI k = nI (8 * k) from pk_mul 8 k]
  refine laysOrder_1 (Q := fun o => ∃ y', o = some y' ∧ yF (od_W k) y y' ∧ ∃ f, od_1 A B h t (g_n B 8) f ∧ rr_R y' k (g_n B 8) f) hk h1 h2 h3 hnb hB hh ht hht _ ?_
  intro y3 F3 m3
  have e2 : y3.1 297 k = nI h := (F3.1 297 k (od_W_row (by decide))).trans h2
  have e3 : y3.1 298 k = nI t := (F3.1 298 k (od_W_row (by decide))).trans h3
  rw [if_pos (in_ok hk (by decide)), if_pos (in_ok (by omega) (by decide)), cl (by omega), e2, m_let, if_pos (in_ok hk (by decide)), nI_add, nI_p (by omega), if_pos (in_ok (by omega) (by decide)), cl (by omega), ys_ne (by decide), e3, m_let]
  have F5 : yF (od_W k) y (m_ys (m_ys y3 299 (8 * k) (nI h)) 299 (8 * k + g_n B 8 - 1) (nI t)) := yF_set (yF_set F3 ⟨rfl, by omega, by omega⟩) ⟨rfl, by omega, by omega⟩
  have cell : ∀ i, i < g_n B 8 → ∃ c, (m_ys (m_ys y3 299 (8 * k) (nI h)) 299 (8 * k + g_n B 8 - 1) (nI t)).1 299 (8 * k + i) = nI c ∧ B c ∧ ((i = 0 ∧ c = h) ∨ (i = g_n B 8 - 1 ∧ c = t) ∨ (0 < i ∧ i < g_n B 8 - 1 ∧ (c ≠ h ∧ c ≠ t) ∧ i = 1 + g_n (fun c => B c ∧ c ≠ h ∧ c ≠ t) c)) := by
    intro i hi
    rw [ys_at]
    by_cases c1 : i = g_n B 8 - 1
    · rw [if_pos (by omega)]
      exact ⟨t, rfl, ht, Or.inr (Or.inl ⟨c1, rfl⟩)⟩
    · rw [if_neg (by omega), ys_at]
      by_cases c2 : i = 0
      · rw [if_pos (by omega)]
        exact ⟨h, rfl, hh, Or.inl ⟨c2, rfl⟩⟩
      · rw [if_neg (by omega)]
        obtain ⟨p, p1, p2, p3⟩ := g_n_sel (P := fun c => B c ∧ c ≠ h ∧ c ≠ t) (N := 8) (i := i - 1) (by omega)
        refine ⟨p, ?_, p2.1, Or.inr (Or.inr ⟨by omega, by omega, p2.2, by omega⟩)⟩
        have := m3 p p1 p2
        rw [show 8 * k + (1 + g_n (fun c => B c ∧ c ≠ h ∧ c ≠ t) p) = 8 * k + i by omega] at this
        exact this
  have fex : ∀ i, i < g_n B 8 → (m_ys (m_ys y3 299 (8 * k) (nI h)) 299 (8 * k + g_n B 8 - 1) (nI t)).1 299 (8 * k + i) = nI ((m_ys (m_ys y3 299 (8 * k) (nI h)) 299 (8 * k + g_n B 8 - 1) (nI t)).1 299 (8 * k + i)).toNatClampNeg ∧ ∀ c, (m_ys (m_ys y3 299 (8 * k) (nI h)) 299 (8 * k + g_n B 8 - 1) (nI t)).1 299 (8 * k + i) = nI c → c < 8 → ((m_ys (m_ys y3 299 (8 * k) (nI h)) 299 (8 * k + g_n B 8 - 1) (nI t)).1 299 (8 * k + i)).toNatClampNeg = c := fun i hi => by
    obtain ⟨c, c1, c2, _⟩ := cell i hi
    have := hB c c2
    rw [c1, cl (by omega)]
    exact ⟨rfl, fun d hd hd8 => (nI_eq (by omega) (by omega)).mp hd⟩
  obtain ⟨f, hf⟩ : ∃ f : Nat → Nat, ∀ i, f i = ((m_ys (m_ys y3 299 (8 * k) (nI h)) 299 (8 * k + g_n B 8 - 1) (nI t)).1 299 (8 * k + i)).toNatClampNeg := ⟨_, fun i => rfl⟩
  have cellf : ∀ i, i < g_n B 8 → B (f i) ∧ ((i = 0 ∧ f i = h) ∨ (i = g_n B 8 - 1 ∧ f i = t) ∨ (0 < i ∧ i < g_n B 8 - 1 ∧ (f i ≠ h ∧ f i ≠ t) ∧ i = 1 + g_n (fun c => B c ∧ c ≠ h ∧ c ≠ t) (f i))) := fun i hi => by
    obtain ⟨c, c1, c2, c3⟩ := cell i hi
    have : f i = c := by rw [hf i]; exact (fex i hi).2 c c1 (hB c c2)
    rw [this]
    exact ⟨c2, c3⟩
  have hR : rr_R (m_ys (m_ys y3 299 (8 * k) (nI h)) 299 (8 * k + g_n B 8 - 1) (nI t)) k (g_n B 8) f := fun i hi => by rw [hf i]; exact (fex i hi).1
  have hr : od_r B h t (g_n B 8) f := by
    refine ⟨by omega, ?_, ?_, fun i hi => (cellf i hi).1, fun i j hi hj e => ?_, fun c hc => ?_⟩
    · rcases (cellf 0 (by omega)).2 with z | z | z
      · exact z.2
      · omega
      · omega
    · rcases (cellf (g_n B 8 - 1) (by omega)).2 with z | z | z
      · omega
      · exact z.2
      · omega
    · have a := (cellf i hi).2
      have b := (cellf j hj).2
      rw [e] at a
      rcases a with a | a | a
      · rcases b with b | b | b
        · omega
        · exact absurd (a.2.symm.trans b.2) hht
        · exact absurd a.2 b.2.2.1.1
      · rcases b with b | b | b
        · exact absurd (b.2.symm.trans a.2) hht
        · omega
        · exact absurd a.2 b.2.2.1.2
      · rcases b with b | b | b
        · exact absurd b.2 a.2.2.1.1
        · exact absurd b.2 a.2.2.1.2
        · omega
    · by_cases c1 : c = h
      · refine ⟨0, by omega, ?_⟩
        rcases (cellf 0 (by omega)).2 with z | z | z
        · rw [z.2, c1]
        · omega
        · omega
      · by_cases c2 : c = t
        · refine ⟨g_n B 8 - 1, by omega, ?_⟩
          rcases (cellf (g_n B 8 - 1) (by omega)).2 with z | z | z
          · omega
          · rw [z.2, c2]
          · omega
        · have hlt := g_n_lt2 (P := fun c => B c ∧ c ≠ h ∧ c ≠ t) (a := c) ⟨hc, c1, c2⟩ (hB c hc)
          refine ⟨1 + g_n (fun c => B c ∧ c ≠ h ∧ c ≠ t) c, by omega, ?_⟩
          have q := cellf (1 + g_n (fun c => B c ∧ c ≠ h ∧ c ≠ t) c) (by omega)
          rcases q.2 with z | z | z
          · omega
          · omega
          · exact g_n_inj (P := fun c => B c ∧ c ≠ h ∧ c ≠ t) ⟨q.1, z.2.2.1⟩ ⟨hc, c1, c2⟩ (by omega)
  have hE5 : nA (fun p => (m_ys (m_ys y3 299 (8 * k) (nI h)) 299 (8 * k + g_n B 8 - 1) (nI t)).1 293 (8 * 1 + p)) = A := by rw [yF_row F5 (q := 293) (fun c => od_W_row (by decide))]; exact hE
  obtain ⟨y', a1, a2, a3⟩ := laysOrder_2 hk hA hT hB hh ht hht hE5 hr hR (fun g hg _ => lx_asc (i := 0) hr hg (fun l hl => by rw [show l = 0 by omega, hr.2.1, hg.2.1]) (fun a b h1 h2 h3 => by
    rcases (cellf a (by omega)).2 with z | z | z
    · omega
    · omega
    · rcases (cellf b (by omega)).2 with w | w | w
      · omega
      · omega
      · have := g_n_mono (P := fun c => B c ∧ c ≠ h ∧ c ≠ t) (a := f b) (b := f a)
        omega))
  exact ⟨y', a1, yF_tr F5 a2, a3⟩
/-! hops -/
def kh_W (k q c : Nat) : Prop := (q = 300 ∨ q = 301) ∧ c = k
theorem knowsHops_ok {n v rd bl : Nat} {y : mY} (hk : k < 64) (hv : v < 8) (hB : ∀ c, B c → c < 8) (hE : nA (fun p => y.1 293 (8 * 1 + p)) = A) (h1 : y.1 296 k = nI n) (h2 : y.1 297 k = nI h) (h3 : y.1 298 k = nI t) (hnb : ∀ i, bt (nI n) i = true ↔ B i) (hn : n < 256) (hr : od_r B h t (g_n B 8) f) (hR : rr_R y k (g_n B 8) f) (hpr : hp_r A (g_n B 8) f t v rd) (hpb : hp_b A (g_n B 8) f h t v bl) : ∃ y', f_X11_knowsHops (nI k) (nI v) y = some y' ∧ yF (kh_W k) y y' ∧ y'.1 300 k = nI rd ∧ y'.1 301 k = nI bl := by
  have hb := g_n_bound (P := B) 8
  have ecnt : g_n (bS (nI n)) 8 = g_n B 8 := g_n_cong 8 (fun c _ => hnb c)
  have hf : ∀ i, i < g_n B 8 → f i < 8 := fun i hi => hB _ (hr.2.2.2.1 i hi)
  have hh8 : h < 8 := by have := hf 0 (by have := hr.1; omega); rw [hr.2.1] at this; exact this
  have ht8 : t < 8 := by have := hf (g_n B 8 - 1) (by have := hr.1; omega); rw [hr.2.2.1] at this; exact this
  have hAb : ∀ q, q < 8 → (A v q ↔ bt (y.1 293 (8 + v)) q = true) := fun q hq => by
    rw [← hE]
    exact ⟨fun z => z.2.2, fun z => ⟨hv, hq, z⟩⟩
  obtain ⟨i0, p1, p2, p3, p4, p5⟩ := hpr
  have hrd8 : rd < 8 := by rw [p5]; exact hf i0 p1
  have loop : ∀ (w : Int32), ((v = t ∧ w = 1) ∨ (v ≠ t ∧ w = 0)) → ∀ y7 : mY, yF (kh_W k) y y7 → y7.1 300 k = -1 → (v = t → y7.1 301 k = nI h) → ∃ y', f_X11_knowsHops_L58 (nI k) (nI v) (nI (g_n B 8)) w mF 0 y7 = some y' ∧ yF (kh_W k) y y' ∧ y'.1 300 k = nI rd ∧ y'.1 301 k = nI bl := by
    intro w hw y7 F7 r7 b7
    refine lp_ok (g_n B 8) (fun n b s => f_X11_knowsHops_L58 (nI k) (nI v) (nI (g_n B 8)) w n b s) (fun i s => yF (kh_W k) y s ∧ ((i ≤ i0 ∧ s.1 300 k = -1) ∨ (i0 < i ∧ s.1 300 k = nI rd)) ∧ (v = t → s.1 301 k = nI h) ∧ (v ≠ t → (∀ j, j < i → ¬ A v (f j)) ∨ ∃ j, j < i ∧ A v (f j) ∧ (∀ l, j < l → l < i → ¬ A v (f l)) ∧ s.1 301 k = nI (f j))) ?_ ?_ mF 0 y7 (Nat.lt_of_le_of_lt hb (by decide)) (by omega) ⟨F7, Or.inl ⟨by omega, r7⟩, b7, fun _ => Or.inl fun j hj => by omega⟩
    · intro n' s hI
      show ∃ y', f_X11_knowsHops_L58 (nI k) (nI v) (nI (g_n B 8)) w (n' + 1) (nI (g_n B 8)) s = some y' ∧ _
      rw [f_X11_knowsHops_L58, if_pos ((nI_leI (by omega) (by omega)).mpr (Nat.le_refl _))]
      obtain ⟨i1, i2, i3, i4⟩ := hI
      refine ⟨s, rfl, i1, ?_, ?_⟩
      · rcases i2 with z | z
        · omega
        · exact z.2
      · rcases hpb with ⟨q1, q2⟩ | ⟨q1, l, l1, l2, l3, l4⟩
        · rw [i3 q1, q2]
        · rcases i4 q1 with z | ⟨j, j1, j2, j3, j4⟩
          · exact absurd l2 (z l l1)
          · have : j = l := by
              rcases Nat.lt_trichotomy j l with e | e | e
              · exact absurd l2 (j3 l e l1)
              · exact e
              · exact absurd j2 (l3 j e j1)
            rw [j4, l4, this]
    · intro n' i s hi hI ih
      obtain ⟨i1, i2, i3, i4⟩ := hI
      show ∃ y', f_X11_knowsHops_L58 (nI k) (nI v) (nI (g_n B 8)) w (n' + 1) (nI i) s = some y' ∧ _
      have e299 : s.1 299 (8 * k + i) = nI (f i) := (i1.1 299 _ (fun z => by rcases z with ⟨z | z, _⟩ <;> omega)).trans (hR i hi)
      have e293 : s.1 293 (8 + v) = y.1 293 (8 + v) := i1.1 293 _ (fun z => by rcases z with ⟨z | z, _⟩ <;> omega)
      have e297 : s.1 297 k = nI h := (i1.1 297 _ (fun z => by rcases z with ⟨z | z, _⟩ <;> omega)).trans h2
      have hfi := hf i hi
      rw [f_X11_knowsHops_L58, if_neg (fun z => absurd ((nI_leI (by omega) (by omega)).mp z) (by omega)), show (8 : Int32) * nI k = nI (8 * k) from pk_mul 8 k, nI_add, a8, if_pos (in_ok (by omega) (by decide)), if_pos (in_ok (by omega) (by decide)), cl (by omega), cl (by omega), cl (by omega), e299, e293, nI_1]
      by_cases ca : A v (f i)
      · rw [if_neg (h11t (by omega) ((hAb _ hfi).mp ca)), if_pos (in_ok hk (by decide)), m_jn]
        dsimp only
        have cont : ∀ y9 : mY, yF (kh_W k) y y9 → ((i + 1 ≤ i0 ∧ y9.1 300 k = -1) ∨ (i0 < i + 1 ∧ y9.1 300 k = nI rd)) → (v = t → y9.1 301 k = nI h) → ∃ r, (if w = 0 then if m_in (nI k) 64 = true then m_let (m_ys y9 301 k (nI (f i))) fun y10 => f_X11_knowsHops_L58 (nI k) (nI v) (nI (g_n B 8)) w n' (nI (i + 1)) y10 else none else f_X11_knowsHops_L58 (nI k) (nI v) (nI (g_n B 8)) w n' (nI (i + 1)) y9) = some r ∧ yF (kh_W k) y r ∧ r.1 300 k = nI rd ∧ r.1 301 k = nI bl := by
          intro y9 F9 r9 b9
          rcases hw with ⟨w1, w2⟩ | ⟨w1, w2⟩
          · rw [if_neg (by rw [w2]; decide)]
            exact ih y9 ⟨F9, r9, b9, fun z => absurd w1 z⟩
          · rw [if_pos w2, if_pos (in_ok hk (by decide)), m_let]
            refine ih _ ⟨yF_set F9 ⟨Or.inr rfl, rfl⟩, ?_, fun z => absurd z w1, fun _ => Or.inr ⟨i, by omega, ca, fun l l1 l2 => by omega, ys_eq _ _ _ _⟩⟩
            rw [ys_ne (by decide)]; exact r9
        have keep : i0 ≠ i → ∃ r, (if w = 0 then if m_in (nI k) 64 = true then m_let (m_ys s 301 k (nI (f i))) fun y10 => f_X11_knowsHops_L58 (nI k) (nI v) (nI (g_n B 8)) w n' (nI (i + 1)) y10 else none else f_X11_knowsHops_L58 (nI k) (nI v) (nI (g_n B 8)) w n' (nI (i + 1)) s) = some r ∧ yF (kh_W k) y r ∧ r.1 300 k = nI rd ∧ r.1 301 k = nI bl := by
          intro hne
          refine cont s i1 ?_ i3
          rcases i2 with z | z
          · exact Or.inl ⟨by omega, z.2⟩
          · exact Or.inr ⟨by omega, z.2⟩
        have put : i0 = i → ∃ r, (if w = 0 then if m_in (nI k) 64 = true then m_let (m_ys (m_ys s 300 k (nI (f i))) 301 k (nI (f i))) fun y10 => f_X11_knowsHops_L58 (nI k) (nI v) (nI (g_n B 8)) w n' (nI (i + 1)) y10 else none else f_X11_knowsHops_L58 (nI k) (nI v) (nI (g_n B 8)) w n' (nI (i + 1)) (m_ys s 300 k (nI (f i)))) = some r ∧ yF (kh_W k) y r ∧ r.1 300 k = nI rd ∧ r.1 301 k = nI bl := by
          intro he
          refine cont _ (yF_set i1 ⟨Or.inl rfl, rfl⟩) (Or.inr ⟨by omega, by rw [ys_eq, p5, he]⟩) (fun z => ?_)
          rw [ys_ne (by decide)]; exact i3 z
        rcases i2 with ⟨z1, z2⟩ | ⟨z1, z2⟩
        · rw [z2, if_neg (by decide)]
          rcases hw with ⟨w1, w2⟩ | ⟨w1, w2⟩
          · rw [if_neg (show ¬ w = 0 by rw [w2]; decide)]
            by_cases cm : g_n B 8 = 2
            · rw [if_pos (by rw [cm]; rfl), if_pos (in_ok hk (by decide)), m_let]
              refine put (Classical.byContradiction fun hne => ?_)
              have := p4 i (by omega) ca
              omega
            · rw [if_neg (show ¬ nI (g_n B 8) = (2 : Int32) from fun z => cm ((nI_eq (b := 2) (by omega) (by omega)).mp z)), if_pos (in_ok hk (by decide)), e297]
              have hm2 := hr.1
              by_cases ch : f i = h
              · rw [if_pos (by rw [ch])]
                refine keep (fun e => ?_)
                have := hr.2.2.2.2.1 i 0 hi (by omega) (ch.trans hr.2.1.symm)
                have := p3 w1 (by omega)
                omega
              · rw [if_neg (fun z => ch ((nI_eq (by omega) (by omega)).mp z)), if_pos (in_ok hk (by decide)), m_let]
                refine put (Classical.byContradiction fun hne => ?_)
                have q := p4 i (by omega) ca
                exact ch (by rw [q.2.2, hr.2.1])
          · rw [if_pos w2, if_pos (in_ok hk (by decide)), m_let]
            refine put (Classical.byContradiction fun hne => ?_)
            exact w1 (p4 i (by omega) ca).1
        · rw [z2, if_pos (nI_pos' (by omega))]
          exact keep (by omega)
      · rw [if_pos (h11f (by omega) (fun z => ca ((hAb _ hfi).mpr z)))]
        refine ih s ⟨i1, ?_, i3, fun hvt => ?_⟩
        · rcases i2 with z | z
          · have : i ≠ i0 := fun e => ca (e ▸ p2)
            exact Or.inl ⟨by omega, z.2⟩
          · exact Or.inr ⟨by omega, z.2⟩
        · rcases i4 hvt with z | ⟨j, j1, j2, j3, j4⟩
          · refine Or.inl fun j hj => ?_
            by_cases e : j = i
            · subst e; exact ca
            · exact z j (by omega)
          · refine Or.inr ⟨j, by omega, j2, fun l l1 l2 => ?_, j4⟩
            by_cases e : l = i
            · subst e; exact ca
            · exact j3 l l1 (by omega)
  unfold f_X11_knowsHops
  rw [if_pos (in_ok hk (by decide)), cl (by omega), h1, bitsOf_ok (b8_nI hn), Option.bind_some, ecnt, if_pos (in_ok hk (by decide)), m_jn, h3]
  by_cases cv : v = t
  · rw [if_pos (by rw [cv])]
    dsimp only
    rw [if_pos (in_ok hk (by decide)), m_let, m_jn, if_neg (by decide), if_pos (in_ok hk (by decide))]
    dsimp only
    rw [if_pos (in_ok hk (by decide)), m_let, ys_ne (by decide), h2]
    refine loop 1 (Or.inl ⟨cv, rfl⟩) _ (yF_set (yF_set (yF_rf _ _) ⟨Or.inl rfl, rfl⟩) ⟨Or.inr rfl, rfl⟩) ?_ (fun _ => ys_eq _ _ _ _)
    rw [ys_ne (by decide), ys_eq]
  · rw [if_neg (fun z => cv ((nI_eq (by omega) (by omega)).mp z))]
    dsimp only
    rw [if_pos (in_ok hk (by decide)), m_let, m_jn, if_pos rfl]
    dsimp only
    rw [if_pos (in_ok hk (by decide)), m_let]
    refine loop 0 (Or.inr ⟨cv, rfl⟩) _ (yF_set (yF_set (yF_rf _ _) ⟨Or.inl rfl, rfl⟩) ⟨Or.inr rfl, rfl⟩) ?_ (fun z => absurd z cv)
    rw [ys_ne (by decide), ys_eq]
end R2
