/-! ===== blocks, of class and reference ===== -/
theorem b_mk (p : Nat → Prop) : ∃ n, n < 256 ∧ ∀ i, bt (nI n) i = true ↔ i < 8 ∧ p i := by
  have key : ∀ k, k ≤ 8 → ∃ s : Int32, ∀ i, bt s i = true ↔ i < k ∧ p i := by
    intro k
    induction k with
    | zero => exact fun _ => ⟨0, fun i => by rw [b_0]; exact ⟨fun h => (by cases h), fun h => absurd h.1 (by omega)⟩⟩
    | succ k ih =>
      intro hk
      obtain ⟨s, hs⟩ := ih (by omega)
      by_cases hp : p k
      · refine ⟨s ||| ((1 : Int32) <<< (nI k &&& 31)), fun i => ?_⟩
        rw [b_or, b_bit (by omega), Bool.or_eq_true, decide_eq_true_eq, hs i]
        constructor
        · rintro (h | rfl)
          · exact ⟨by omega, h.2⟩
          · exact ⟨by omega, hp⟩
        · intro h
          by_cases e : i = k
          · exact Or.inr e
          · exact Or.inl ⟨by omega, h.2⟩
      · refine ⟨s, fun i => ?_⟩
        rw [hs i]
        refine ⟨fun h => ⟨by omega, h.2⟩, fun h => ⟨?_, h.2⟩⟩
        have : i ≠ k := fun e => hp (e ▸ h.2)
        omega
  obtain ⟨s, hs⟩ := key 8 (by omega)
  obtain ⟨n, hn, rfl⟩ := b8_num (s := s) (fun i hi => ((hs i).mp hi).1)
  exact ⟨n, hn, hs⟩
theorem b_le {n m : Nat} (hn : n < 256) (hm : m < 256) (h : ∀ i, bt (nI n) i = true → bt (nI m) i = true) : n ≤ m := by
  have e : n &&& m = n := by
    refine Nat.eq_of_testBit_eq fun i => ?_
    rw [Nat.testBit_and]
    by_cases hi : i < 32
    · have := h i
      rw [b_nI hi, b_nI hi] at this
      by_cases c : n.testBit i = true
      · rw [c, this c]; rfl
      · rw [show n.testBit i = false by simpa using c]; rfl
    · have : n.testBit i = false := Nat.testBit_lt_two_pow (Nat.lt_of_lt_of_le hn (show 2 ^ 8 ≤ 2 ^ i from Nat.pow_le_pow_right (by decide) (by omega)))
      rw [this]; rfl
  rw [← e]
  exact Nat.and_le_right
theorem b_inj {n m : Nat} (hn : n < 256) (hm : m < 256) (h : ∀ i, bt (nI n) i = true ↔ bt (nI m) i = true) : n = m :=
  Nat.le_antisymm (b_le hn hm fun i => (h i).mp) (b_le hm hn fun i => (h i).mpr)
section B1
variable {A : Nat → Nat → Prop} {V : Nat → Prop} {P : Int32}
/-- a tight set of V, as a number -/
def bk_t (A : Nat → Nat → Prop) (V : Nat → Prop) (n : Nat) : Prop := (∀ i, bt (nI n) i = true → V i) ∧ g_T A (bS (nI n))
def bk_B (A : Nat → Nat → Prop) (V : Nat → Prop) (n : Nat) : Prop := n < 256 ∧ bk_t A V n ∧ ∀ m, n < m → m < 256 → (∀ i, bt (nI n) i = true → bt (nI m) i = true) → ¬ bk_t A V m
/-- the block of two mates, as a number -/
def bk_v (A : Nat → Nat → Prop) (V : Nat → Prop) (p q n : Nat) : Prop := p < q ∧ q < 8 ∧ g_M A V p q ∧ n < 256 ∧ ∀ i, bt (nI n) i = true ↔ g_B A V p q i
theorem g_T_eq {S T : Nat → Prop} (h : ∀ i, S i ↔ T i) : g_T A S ↔ g_T A T := by
  rw [show S = T from funext fun i => propext (h i)]
theorem bk_iff (hN : g_N A V) {n : Nat} : bk_B A V n ↔ ∃ p q, bk_v A V p q n := by
  constructor
  · rintro ⟨hn, ⟨hs, hT⟩, hmax⟩
    obtain ⟨a, b, ha, hb, hab⟩ := hT.1
    have main : ∀ a b, bS (nI n) a → bS (nI n) b → a < b → ∃ p q, bk_v A V p q n := by
      intro a b ha hb hab
      have hM : g_M A V a b := g_T_M hT hs ha hb
      obtain ⟨m, hm, hmb⟩ := b_mk (g_B A V a b)
      have hmb' : ∀ i, bt (nI m) i = true ↔ g_B A V a b i := fun i => (hmb i).trans ⟨fun h => h.2, fun h => ⟨hN.2.2 i (g_B_V h), h⟩⟩
      have hsub : ∀ i, bt (nI n) i = true → bt (nI m) i = true := fun i hi => (hmb' i).mpr (g_B_max hN.1 hT hs ha hb hi)
      have hle := b_le hn hm hsub
      by_cases e : n = m
      · exact ⟨a, b, hab, hN.2.2 b (hs b hb), hM, hn, fun i => by rw [e]; exact hmb' i⟩
      · refine absurd ⟨fun i hi => g_B_V ((hmb' i).mp hi), ?_⟩ (hmax m (by omega) hm hsub)
        exact (g_T_eq hmb').mpr (g_B_tight hN.1 (by omega) hM)
    rcases Nat.lt_or_ge a b with h | h
    · exact main a b ha hb h
    · exact main b a hb ha (by omega)
  · rintro ⟨p, q, hpq, hq, hM, hn, hb⟩
    refine ⟨hn, ⟨fun i hi => g_B_V ((hb i).mp hi), (g_T_eq hb).mpr (g_B_tight hN.1 (by omega) hM)⟩, fun m hnm hm hsub ht => ?_⟩
    have hp : bt (nI m) p = true := hsub p ((hb p).mpr ⟨g_M_rf hM.1.1, g_M_sy hN.1 hM⟩)
    have hq : bt (nI m) q = true := hsub q ((hb q).mpr ⟨hM, g_M_rf (g_in hM.1)⟩)
    have := b_le hm hn (fun i hi => (hb i).mpr (g_B_max hN.1 ht.2 ht.1 hp hq hi))
    omega
theorem bk_v_un {p q n m : Nat} (h : bk_v A V p q n) (h' : bk_v A V p q m) : n = m := b_inj h.2.2.2.1 h'.2.2.2.1 (fun i => (h.2.2.2.2 i).trans (h'.2.2.2.2 i).symm)
/-- there are eight blocks at most -/
theorem bk_few (hN : g_N A V) : g_n (bk_B A V) 256 ≤ 8 := by
  refine g_n_php 256 (fun n v => n < 256 ∧ ∃ r p, g_L A V r ∧ g_C A V v r ∧ v ≠ r ∧ g_H A V r v p ∧ ∀ i, bt (nI n) i = true ↔ g_B A V v p i) ?_ 8 (bk_B A V) ?_
  · rintro c d v - - ⟨hc, r, p, r1, r2, r3, r4, r5⟩ ⟨hd, r', p', s1, s2, s3, s4, s5⟩
    have e : r = r' := g_L_un hN.1 r1 s1 (g_tr (g_sy hN.1 r2) s2)
    subst e
    have e2 := g_H_un hN.1 r2 r4 s4
    subst e2
    exact b_inj hc hd (fun i => (r5 i).trans (s5 i).symm)
  · intro n hn hB
    obtain ⟨a, b, hab, hb, hM, _, hbits⟩ := (bk_iff hN).mp hB
    obtain ⟨r, r1, r2, _⟩ := g_L_ex (A := A) (v := a) hM.1.1
    have hbr : g_C A V b r := g_tr (g_sy hN.1 hM.1) r2
    have hMba := g_M_sy hN.1 hM
    have hcomm : ∀ i, g_B A V a b i ↔ g_B A V b a i := fun i => And.comm
    by_cases ear : a = r
    · subst ear
      exact ⟨b, hb, hn, a, a, r1, hbr, by omega, Or.inl ⟨hMba, rfl⟩, fun i => (hbits i).trans (hcomm i)⟩
    · by_cases ebr : b = r
      · subst ebr
        exact ⟨a, by omega, hn, b, b, r1, r2, ear, Or.inl ⟨hM, rfl⟩, hbits⟩
      · obtain ⟨p, hp⟩ := g_H_ex hN.1 hN.2.2 r2 ear
        by_cases hbo : g_B A V a p b
        · have hMp := (g_H_M ear hp).1
          have hpa := (g_H_M ear hp).2
          refine ⟨a, by omega, hn, r, p, r1, r2, ear, hp, fun i => ?_⟩
          rw [hbits i]
          exact (g_B_eq hN.1 (Ne.symm hpa) hMp (by omega) ⟨g_M_rf hM.1.1, g_M_sy hN.1 hMp⟩ hbo).symm
        · have hns : ¬ g_C A (g_D V a) r b := fun k => hbo (g_H_own hN.1 r2 ear hp hM (by omega) k)
          have hnb : ¬ g_C A (g_D V a) b r := fun k => hns (g_sy hN.1 k)
          refine ⟨b, hb, hn, r, a, r1, hbr, ebr, Or.inr ⟨fun m => hnb (g_M_c m (by omega) (Ne.symm ear)), by omega, hMba, hnb⟩, fun i => (hbits i).trans (hcomm i)⟩
/-- what block(.., i) answers -/
def bk_A (A : Nat → Nat → Prop) (V : Nat → Prop) (i r : Int32) : Prop := (∃ n, bk_B A V n ∧ i = nI (g_n (bk_B A V) n) ∧ r = nI n) ∨ ((∀ n, bk_B A V n → i ≠ nI (g_n (bk_B A V) n)) ∧ r = if i = -1 then nI (g_n (bk_B A V) 256) else -1)
theorem bk_A_un {i r r' : Int32} (h : bk_A A V i r) (h' : bk_A A V i r') : r = r' := by
  have hlt : ∀ m, m < 256 → g_n (bk_B A V) m < 2 ^ 31 := fun m hm => by have := g_n_bound (P := bk_B A V) m; omega
  rcases h with ⟨m, m1, m2, m3⟩ | ⟨n1, n2⟩
  · rcases h' with ⟨k, k1, k2, k3⟩ | ⟨k1, k2⟩
    · have e : m = k := g_n_inj m1 k1 ((nI_eq (hlt m m1.1) (hlt k k1.1)).mp (m2.symm.trans k2))
      rw [m3, k3, e]
    · exact absurd m2 (k1 m m1)
  · rcases h' with ⟨k, k1, k2, k3⟩ | ⟨k1, k2⟩
    · exact absurd k2 (n1 k k1)
    · rw [n2, k2]
/-- the least value above t of the pairs seen -/
def lb_I (A : Nat → Nat → Prop) (V : Nat → Prop) (t j k s : Nat) : Prop := s < 256 ∧ (s = 0 ∨ (t < s ∧ ∃ p q, bk_v A V p q s)) ∧ ∀ p q n, (p < j ∨ p = j ∧ q < k) → bk_v A V p q n → t < n → s ≠ 0 ∧ s ≤ n
theorem leastBlock_in {a : Nat} (x : mX) (hN : g_N A V) (hm : ∀ p, p < 8 → ∀ i, bt (x.1 (a + 5) p) i = true ↔ g_M A V p i) {t : Nat} (ht : t < 256) {j : Nat} (hj : j < 8) {Q : Option Int32 → Prop} (kk : Int32 → Option Int32) (s0 : Nat) (h0 : lb_I A V t j (j + 1) s0) (hk : ∀ s, lb_I A V t (j + 1) 0 s → Q (kk (nI s))) : Q (f_X3_leastBlock_L15 a (nI t) (nI j) mF (nI s0) (nI (j + 1)) x kk) := by
  refine lp_up 8 (fun n b (s : Nat) => f_X3_leastBlock_L15 a (nI t) (nI j) n (nI s) b x kk) (fun k s => j < k ∧ lb_I A V t j k s) Q ?_ ?_ mF (j + 1) s0 (Nat.lt_of_lt_of_le (show 8 < mF by decide) (by omega)) (by omega) ⟨by omega, h0⟩
  · intro n s hI
    show Q (f_X3_leastBlock_L15 a (nI t) (nI j) (n + 1) (nI s) (nI 8) x kk)
    rw [f_X3_leastBlock_L15, if_pos (by decide)]
    refine hk s ⟨hI.2.1, hI.2.2.1, fun p q n hpq hv => hI.2.2.2 p q n ?_ hv⟩
    have := hv.2.1
    omega
  · intro n k s hk8 hI ih
    obtain ⟨hjk, i1, i2, i3⟩ := hI
    show Q (f_X3_leastBlock_L15 a (nI t) (nI j) (n + 1) (nI s) (nI k) x kk)
    rw [f_X3_leastBlock_L15, if_neg (k8f hk8), if_pos (in_ok hj (by decide)), cl (by omega), nI_1, m_jn]
    have keep : (∀ m, bk_v A V j k m → t < m → s ≠ 0 ∧ s ≤ m) → Q (f_X3_leastBlock_L15 a (nI t) (nI j) n (nI s) (nI (k + 1)) x kk) := by
      intro hno
      refine ih s ⟨by omega, i1, i2, fun p q m hpq hv htm => ?_⟩
      by_cases e : p = j ∧ q = k
      · obtain ⟨rfl, rfl⟩ := e
        exact hno m hv htm
      · exact i3 p q m (by omega) hv htm
    by_cases hb : bt (x.1 (a + 5) j) k = true
    · rw [if_neg (h10t (by omega) hb)]
      obtain ⟨r, r1, r2⟩ := blockOf_ok (A := A) (V := V) x hm hj hk8
      obtain ⟨v, hv, rfl⟩ := b8_num (s := r) (fun i hi => hN.2.2 i (g_B_V ((r2 i).mp hi)))
      have hval : bk_v A V j k v := ⟨hjk, hk8, (hm j hj k).mp hb, hv, r2⟩
      rw [r1, Option.bind_some]
      dsimp only
      by_cases c1 : v ≤ t
      · rw [if_pos ((nI_leI (by omega) (by omega)).mpr c1)]
        exact keep (fun m hm2 htm => by have := bk_v_un hval hm2; omega)
      · rw [if_neg (fun z => c1 ((nI_leI (by omega) (by omega)).mp z))]
        have take : (s = 0 ∨ v < s) → Q (f_X3_leastBlock_L15 a (nI t) (nI j) n (nI v) (nI (k + 1)) x kk) := by
          intro hs
          refine ih v ⟨by omega, hv, Or.inr ⟨by omega, j, k, hval⟩, fun p q m hpq hv2 htm => ?_⟩
          by_cases e : p = j ∧ q = k
          · obtain ⟨rfl, rfl⟩ := e
            have := bk_v_un hval hv2
            omega
          · have := i3 p q m (by omega) hv2 htm
            omega
        by_cases c2 : s = 0
        · subst c2
          rw [if_pos nI_0]
          exact take (Or.inl rfl)
        · rw [if_neg (nI_ne0 (by omega) (by omega))]
          by_cases c3 : s ≤ v
          · rw [if_pos ((nI_leI (by omega) (by omega)).mpr c3)]
            exact keep (fun m hm2 htm => by have := bk_v_un hval hm2; omega)
          · rw [if_neg (fun z => c3 ((nI_leI (by omega) (by omega)).mp z))]
            exact take (Or.inr (by omega))
    · rw [if_pos (h10f (by omega) hb)]
      dsimp only
      rw [if_pos (show (0 : Int32) ≤ nI t from nI_pos' (by omega))]
      exact keep (fun m hm2 => absurd ((hm j hj k).mpr hm2.2.2.1) hb)
theorem leastBlock_ok {a : Nat} (x : mX) (hN : g_N A V) (hm : ∀ p, p < 8 → ∀ i, bt (x.1 (a + 5) p) i = true ↔ g_M A V p i) {t : Nat} (ht : t < 256) : ∃ s, f_X3_leastBlock a (nI t) x = some (nI s) ∧ ((s = 0 ∧ ∀ n, t < n → ¬ bk_B A V n) ∨ (bk_B A V s ∧ t < s ∧ ∀ n, t < n → n < s → ¬ bk_B A V n)) := by
  unfold f_X3_leastBlock
  refine lp_up 8 (fun n b (s : Nat) => f_X3_leastBlock_L4 a (nI t) n (nI s) b x) (fun j s => lb_I A V t j 0 s) (fun o => ∃ s, o = some (nI s) ∧ ((s = 0 ∧ ∀ n, t < n → ¬ bk_B A V n) ∨ (bk_B A V s ∧ t < s ∧ ∀ n, t < n → n < s → ¬ bk_B A V n))) ?_ ?_ mF 0 0 (by decide) (by decide) ⟨by decide, Or.inl rfl, fun p q n h => by omega⟩
  · intro n s hI
    show ∃ s', f_X3_leastBlock_L4 a (nI t) (n + 1) (nI s) (nI 8) x = some (nI s') ∧ _
    rw [f_X3_leastBlock_L4, if_pos (by decide)]
    obtain ⟨i1, i2, i3⟩ := hI
    refine ⟨s, rfl, ?_⟩
    have all : ∀ n, t < n → bk_B A V n → s ≠ 0 ∧ s ≤ n := fun n hn hB => by
      obtain ⟨p, q, hv⟩ := (bk_iff hN).mp hB
      have h1 := hv.1
      have h2 := hv.2.1
      exact i3 p q n (by omega) hv hn
    rcases i2 with h | ⟨h1, h2⟩
    · exact Or.inl ⟨h, fun n hn hB => (all n hn hB).1 h⟩
    · exact Or.inr ⟨(bk_iff hN).mpr h2, h1, fun n hn hns hB => by have := all n hn hB; omega⟩
  · intro n j s hj hI ih
    show ∃ s', f_X3_leastBlock_L4 a (nI t) (n + 1) (nI s) (nI j) x = some (nI s') ∧ _
    rw [f_X3_leastBlock_L4, if_neg (k8f hj), nI_1]
    refine leastBlock_in (Q := fun o => ∃ s, o = some (nI s) ∧ ((s = 0 ∧ ∀ n, t < n → ¬ bk_B A V n) ∨ (bk_B A V s ∧ t < s ∧ ∀ n, t < n → n < s → ¬ bk_B A V n))) x hN hm ht hj _ s ⟨hI.1, hI.2.1, fun p q m hpq hv htm => ?_⟩ (fun s' hs' => ih s' hs')
    have := hv.1
    exact hI.2.2 p q m (by omega) hv htm
theorem bk_0 : ¬ bk_B A V 0 := fun h => by
  obtain ⟨a, _, ha, _⟩ := h.2.1.2.1
  rw [bS, nI_0, b_0] at ha
  cases ha
theorem blockAt_ok {a : Nat} (x : mX) (hN : g_N A V) (hm : ∀ p, p < 8 → ∀ i, bt (x.1 (a + 5) p) i = true ↔ g_M A V p i) (i : Int32) : ∃ r, f_X3_blockAt a i x = some r ∧ bk_A A V i r := by
  unfold f_X3_blockAt
  obtain ⟨s0, e0, h0⟩ := leastBlock_ok x hN hm (t := 0) (by decide)
  rw [nI_0] at e0
  rw [e0, Option.bind_some]
  have hfew := bk_few hN
  have flat : ∀ t s, t ≤ s → (∀ n, t ≤ n → n < s → ¬ bk_B A V n) → g_n (bk_B A V) s = g_n (bk_B A V) t := fun t s h1 h2 => g_n_flat h1 h2
  refine lp_ok 8 (fun n b (s : Nat) => f_X3_blockAt_L11 a i n b (nI s) b x) (fun j s => (s = 0 ∧ g_n (bk_B A V) 256 = j ∧ ∀ n, bk_B A V n → i ≠ nI (g_n (bk_B A V) n)) ∨ (bk_B A V s ∧ g_n (bk_B A V) s = j ∧ ∀ n, n < s → bk_B A V n → i ≠ nI (g_n (bk_B A V) n))) ?_ ?_ mF 0 s0 (by decide) (by decide) ?_
  · intro n s hI
    show ∃ r, f_X3_blockAt_L11 a i (n + 1) (nI 8) (nI s) (nI 8) x = some r ∧ _
    rw [f_X3_blockAt_L11, if_pos (by decide)]
    rcases hI with ⟨h1, h2, h3⟩ | ⟨h1, h2, h3⟩
    · by_cases e : i = -1
      · rw [if_pos e]
        exact ⟨_, rfl, Or.inr ⟨h3, by rw [if_pos e, h2]⟩⟩
      · rw [if_neg e]
        exact ⟨_, rfl, Or.inr ⟨h3, by rw [if_neg e]⟩⟩
    · have h4 := g_n_mono (P := bk_B A V) (show s + 1 ≤ 256 from h1.1)
      rw [g_n_step s h1] at h4
      omega
  · intro n j s hj hI ih
    show ∃ r, f_X3_blockAt_L11 a i (n + 1) (nI j) (nI s) (nI j) x = some r ∧ _
    rw [f_X3_blockAt_L11, if_neg (k8f hj), nI_1]
    rcases hI with ⟨h1, h2, h3⟩ | ⟨h1, h2, h3⟩
    · subst h1
      rw [if_pos nI_0]
      by_cases e : i = -1
      · rw [if_pos e]
        exact ⟨_, rfl, Or.inr ⟨h3, by rw [if_pos e, h2]⟩⟩
      · rw [if_neg e]
        exact ⟨_, rfl, Or.inr ⟨h3, by rw [if_neg e]⟩⟩
    · have hs0 : s ≠ 0 := fun e => bk_0 (e ▸ h1)
      have hs256 := h1.1
      rw [if_neg (nI_ne0 (by omega) (by omega))]
      by_cases e : nI j = i
      · rw [if_pos e]
        exact ⟨_, rfl, Or.inl ⟨s, h1, by rw [h2]; exact e.symm, rfl⟩⟩
      · rw [if_neg e]
        obtain ⟨s', e', h'⟩ := leastBlock_ok x hN hm hs256
        rw [e', Option.bind_some]
        have hn : ∀ n, n ≤ s → bk_B A V n → i ≠ nI (g_n (bk_B A V) n) := fun n hns hB => by
          by_cases en : n = s
          · subst en; rw [h2]; exact Ne.symm e
          · exact h3 n (by omega) hB
        refine ih s' ?_
        rcases h' with ⟨k1, k2⟩ | ⟨k1, k2, k3⟩
        · refine Or.inl ⟨k1, ?_, fun n hB => ?_⟩
          · rw [flat (s + 1) 256 (by omega) (fun n hn1 _ => k2 n (by omega)), g_n_step s h1, h2]
          · by_cases c : n ≤ s
            · exact hn n c hB
            · exact absurd hB (k2 n (by omega))
        · refine Or.inr ⟨k1, ?_, fun n hns hB => ?_⟩
          · rw [flat (s + 1) s' (by omega) (fun n hn1 hn2 => k3 n (by omega) hn2), g_n_step s h1, h2]
          · by_cases c : n ≤ s
            · exact hn n c hB
            · exact absurd hB (k3 n (by omega) hns)
  · rcases h0 with ⟨k1, k2⟩ | ⟨k1, k2, k3⟩
    · refine Or.inl ⟨k1, ?_, fun n hB => ?_⟩
      · rw [flat 0 256 (by omega) (fun n _ _ hB => ?_)]
        · rfl
        · by_cases c : n = 0
          · exact bk_0 (c ▸ hB)
          · exact k2 n (by omega) hB
      · by_cases c : n = 0
        · exact absurd (c ▸ hB) bk_0
        · exact absurd hB (k2 n (by omega))
    · refine Or.inr ⟨k1, ?_, fun n hns hB => ?_⟩
      · rw [flat 0 s0 (by omega) (fun n _ hn2 hB => ?_)]
        · rfl
        · by_cases c : n = 0
          · exact bk_0 (c ▸ hB)
          · exact k3 n (by omega) hn2 hB
      · by_cases c : n = 0
        · exact absurd (c ▸ hB) bk_0
        · exact absurd hB (k3 n (by omega) hns)
/-! the reference -/
/-- all of a set come to one another -/
def g_1 (A : Nat → Nat → Prop) (S : Nat → Prop) : Prop := ∀ a b, S a → S b → g_C A S a b
theorem isOne_ok {w : Nat} (hw : w < 3) {S : Int32} (h8 : b8 S) (y : mY) (hA : ∀ a b, A a b → A b a) (hE : nA (fun p => y.1 293 (8 * w + p)) = A) : (g_1 A (bS S) ∧ f_X11_isOne (nI w) S y = some 1) ∨ (¬ g_1 A (bS S) ∧ f_X11_isOne (nI w) S y = some 0) := by
  unfold f_X11_isOne
  by_cases h0 : S = 0
  · rw [if_pos h0]
    refine Or.inl ⟨fun a b ha => ?_, rfl⟩
    rw [bS, h0, b_0] at ha
    cases ha
  · rw [if_neg h0]
    obtain ⟨k, hk⟩ := b_ex h0
    obtain ⟨m, m1, m2, m3⟩ := b_least hk
    have hm8 : m < 8 := h8 m m2
    rw [lowestOf_at (by omega) m2 m3, Option.bind_some]
    obtain ⟨C, e, hC⟩ := comes_ok hw h8 y hm8 m2
    rw [hE] at hC
    rw [e, Option.bind_some]
    by_cases hCS : C = S
    · rw [if_pos hCS]
      rw [hCS] at hC
      exact Or.inl ⟨fun a b ha hb => g_tr (g_sy hA ((hC a).mp ha)) ((hC b).mp hb), rfl⟩
    · rw [if_neg hCS]
      exact Or.inr ⟨fun h => hCS (b_eq_iff fun i => ⟨fun hi => g_in ((hC i).mp hi), fun hi => (hC i).mpr (h m i m2 hi)⟩), rfl⟩
theorem isTight_ok {w : Nat} (hw : w < 3) {S : Int32} (h8 : b8 S) (y : mY) (hA : ∀ a b, A a b → A b a) (hE : nA (fun p => y.1 293 (8 * w + p)) = A) : (g_T A (bS S) ∧ f_X11_isTight (nI w) S y = some 1) ∨ (¬ g_T A (bS S) ∧ f_X11_isTight (nI w) S y = some 0) := by
  unfold f_X11_isTight
  rw [bitsOf_ok h8, Option.bind_some]
  have hb := g_n_bound (P := bS S) 8
  by_cases h2 : g_n (bS S) 8 < 2
  · rw [if_pos (show nI (g_n (bS S) 8) < (2 : Int32) from (nI_ltI (b := 2) (by omega) (by omega)).mpr h2)]
    refine Or.inr ⟨fun hT => ?_, rfl⟩
    obtain ⟨a, b, ha, hb, hab⟩ := hT.1
    have := g_n_two (P := bS S) 8 a b hab (h8 a ha) (h8 b hb) ha hb
    omega
  · rw [if_neg (show ¬ nI (g_n (bS S) 8) < (2 : Int32) from fun z => h2 ((nI_ltI (b := 2) (by omega) (by omega)).mp z))]
    have htwo := (g_n_2 (P := bS S) (n := 8)).mp (by omega)
    rcases isOne_ok hw h8 y hA hE with ⟨o1, o2⟩ | ⟨o1, o2⟩
    · rw [o2, Option.bind_some, if_neg (by decide)]
      refine lp_up 8 (fun n b (_ : Unit) => f_X11_isTight_L21 (nI w) S n b y) (fun j _ => ∀ p, p < j → bS S p → g_1 A (g_D (bS S) p)) (fun o => (g_T A (bS S) ∧ o = some 1) ∨ (¬ g_T A (bS S) ∧ o = some 0)) ?_ ?_ mF 0 () (by decide) (by decide) (fun p hp => by omega)
      · intro n _ hI
        refine Or.inl ⟨⟨?_, fun x a b ha hb hax hbx => ?_⟩, ?_⟩
        · obtain ⟨a, b, _, _, ha, hb, hab⟩ := htwo
          exact ⟨a, b, ha, hb, hab⟩
        · by_cases hx : bS S x
          · exact hI x (h8 x hx) hx a b ⟨ha, hax⟩ ⟨hb, hbx⟩
          · exact g_mo (o1 a b ha hb) (fun c hc => ⟨hc, fun e => hx (e ▸ hc)⟩)
        · show f_X11_isTight_L21 (nI w) S (n + 1) (nI 8) y = some 1
          rw [f_X11_isTight_L21, if_pos (by decide)]
      · intro n j _ hj hI ih
        show (g_T A (bS S) ∧ f_X11_isTight_L21 (nI w) S (n + 1) (nI j) y = some 1) ∨ (¬ g_T A (bS S) ∧ f_X11_isTight_L21 (nI w) S (n + 1) (nI j) y = some 0)
        rw [f_X11_isTight_L21, if_neg (k8f hj), nI_1]
        by_cases hS : bt S j = true
        · rw [if_neg (h11t (by omega) hS)]
          have h := isOne_ok hw (S := S &&& (((1 : Int32) <<< (nI j &&& 31)) ^^^ (-1 : Int32))) (b8_andl h8) y hA hE
          rw [bS_woE (by omega)] at h
          rcases h with ⟨k1, k2⟩ | ⟨k1, k2⟩
          · rw [k2, Option.bind_some, if_neg (by decide)]
            refine ih () (fun p hp hSp => ?_)
            by_cases e : p = j
            · subst e; exact k1
            · exact hI p (by omega) hSp
          · rw [k2, Option.bind_some, if_pos rfl]
            exact Or.inr ⟨fun hT => k1 (fun a b ha hb => hT.2 j a b ha.1 hb.1 ha.2 hb.2), rfl⟩
        · rw [if_pos (h11f (by omega) hS)]
          refine ih () (fun p hp hSp => ?_)
          by_cases e : p = j
          · subst e; exact absurd hSp hS
          · exact hI p (by omega) hSp
    · rw [o2, Option.bind_some, if_pos rfl]
      exact Or.inr ⟨fun hT => o1 (fun a b ha hb => g_T_conn hT ha hb), rfl⟩
end B1
