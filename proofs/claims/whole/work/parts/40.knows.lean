/-! ===== the reference's tables ===== -/
section K1
variable {A : Nat → Nat → Prop} {V : Nat → Prop}
/-- the entry e = 8 r + v is right -/
def ky_g (Y : Nat → Nat → Int32) (A : Nat → Nat → Prop) (V : Nat → Prop) (e : Nat) : Prop := ∃ n p t f rd bl, tb_ok A V (e / 8) (e % 8) n p t f rd bl ∧ Y 296 e = nI n ∧ Y 297 e = nI p ∧ Y 298 e = nI t ∧ (∀ i, i < g_n (g_B A V (e % 8) p) 8 → Y 299 (8 * e + i) = nI (f i)) ∧ Y 300 e = nI rd ∧ Y 301 e = nI bl
def ky_e (Y : Nat → Nat → Int32) (A : Nat → Nat → Prop) (V : Nat → Prop) (e : Nat) : Prop := ky_g Y A V e ∨ (¬ (g_C A V (e % 8) (e / 8) ∧ e % 8 ≠ e / 8) ∧ Y 296 e = 0)
/-- cells of the entry k -/
def ko_W (k q c : Nat) : Prop := ((q = 296 ∨ q = 297 ∨ q = 298 ∨ q = 300 ∨ q = 301) ∧ c = k) ∨ od_W k q c
theorem ky_e_F {y y' : mY} {k e : Nat} (h : yF (ko_W k) y y') (hne : e ≠ k) (he : ky_e y.1 A V e) : ky_e y'.1 A V e := by
  have key : ∀ q, q ≠ 299 → y'.1 q e = y.1 q e := fun q hq => h.1 q e (fun z => by
    rcases z with z | z
    · exact hne z.2
    · exact hq z.1)
  have key2 : ∀ i, i < 8 → y'.1 299 (8 * e + i) = y.1 299 (8 * e + i) := fun i hi => h.1 299 _ (fun z => by
    rcases z with ⟨z, _⟩ | ⟨_, z1, z2⟩
    · omega
    · omega)
  rcases he with ⟨n, p, t, f, rd, bl, t0, t1, t2, t3, t4, t5, t6⟩ | ⟨e1, e2⟩
  · refine Or.inl ⟨n, p, t, f, rd, bl, t0, (key 296 (by decide)).trans t1, (key 297 (by decide)).trans t2, (key 298 (by decide)).trans t3, fun i hi => ?_, (key 300 (by decide)).trans t5, (key 301 (by decide)).trans t6⟩
    have := g_n_bound (P := g_B A V (e % 8) p) 8
    rw [key2 i (by omega)]
    exact t4 i hi
  · exact Or.inr ⟨e1, (key 296 (by decide)).trans e2⟩
/-- the blocks stand in their row -/
def bl_R (Y : Nat → Nat → Int32) (A : Nat → Nat → Prop) (V : Nat → Prop) : Prop := Y 279 34 = nI (g_n (bk_B A V) 256) ∧ ∀ n, bk_B A V n → Y 295 (g_n (bk_B A V) n) = nI n
/-- the own block is the one block with v that meets r's side of v -/
theorem own_iff (hN : g_N A V) {r v p n m : Nat} (h1 : g_C A V v r) (h2 : v ≠ r) (h3 : g_H A V r v p) (hn : n < 256) (hnb : ∀ i, bt (nI n) i = true ↔ g_B A V v p i) (hm : bk_B A V m) : (bt (nI m) v = true ∧ ∃ u, bt (nI m) u = true ∧ g_C A (g_D V v) r u) ↔ m = n := by
  have b := tb_B hN h1 h2 h3
  constructor
  · rintro ⟨k1, u, k2, k3⟩
    have huv : u ≠ v := (g_in k3).2
    have hM : g_M A V v u := g_T_M hm.2.1.2 hm.2.1.1 k1 k2
    have hBu := g_H_own hN.1 h1 h2 h3 hM huv k3
    obtain ⟨a, c, hv⟩ := (bk_iff hN).mp hm
    have ev : g_B A V a c v := (hv.2.2.2.2 v).mp k1
    have eu : g_B A V a c u := (hv.2.2.2.2 u).mp k2
    have hac : a ≠ c := by have := hv.1; omega
    refine b_inj hm.1 hn (fun i => ?_)
    rw [hv.2.2.2.2 i, hnb i, g_B_eq hN.1 hac hv.2.2.1 (Ne.symm huv) ev eu]
    exact (g_B_eq hN.1 (Ne.symm b.2.2.2.1) (g_H_M h2 h3).1 (Ne.symm huv) b.2.1 hBu).symm
  · rintro rfl
    exact ⟨(hnb v).mpr b.2.1, p, (hnb p).mpr b.2.2.1, g_H_side hN.1 h1 h2 h3⟩
theorem own_bk (hN : g_N A V) {r v p n : Nat} (h1 : g_C A V v r) (h2 : v ≠ r) (h3 : g_H A V r v p) (hn : n < 256) (hnb : ∀ i, bt (nI n) i = true ↔ g_B A V v p i) : bk_B A V n := by
  have b := tb_B hN h1 h2 h3
  have hM := (g_H_M h2 h3).1
  have hv8 := b.2.2.2.2 v b.2.1
  have hp8 := b.2.2.2.2 p b.2.2.1
  rw [bk_iff hN]
  rcases Nat.lt_or_ge v p with e | e
  · exact ⟨v, p, e, hp8, hM, hn, hnb⟩
  · refine ⟨p, v, by have := b.2.2.2.1; omega, hv8, g_M_sy hN.1 hM, hn, fun i => (hnb i).trans And.comm⟩
theorem knowsOne_1 (hN : g_N A V) {r v p n k : Nat} {S : Int32} (hk : k < 64) (hv : v < 8) (h1 : g_C A V v r) (h2 : v ≠ r) (h3 : g_H A V r v p) (hn : n < 256) (hnb : ∀ i, bt (nI n) i = true ↔ g_B A V v p i) (hS : ∀ i, bt S i = true ↔ g_C A (g_D V v) r i) (y : mY) (hbl : bl_R y.1 A V) (h0 : y.1 296 k = 0) {Q : Option mY → Prop} (kk : mY → Option mY) (hq : ∀ y', yF (fun q c => q = 296 ∧ c = k) y y' → y'.1 296 k = nI n → Q (kk y')) : Q (f_X11_knowsOne_L19 (nI k) (nI v) S mF 0 y kk) := by
  have hfew := bk_few hN
  have hB := own_bk hN h1 h2 h3 hn hnb
  have hlt := g_n_lt2 (P := bk_B A V) hB hn
  refine lp_up (g_n (bk_B A V) 256) (fun n b s => f_X11_knowsOne_L19 (nI k) (nI v) S n b s kk) (fun j s => yF (fun q c => q = 296 ∧ c = k) y s ∧ ((j ≤ g_n (bk_B A V) n ∧ s.1 296 k = 0) ∨ (g_n (bk_B A V) n < j ∧ s.1 296 k = nI n))) Q ?_ ?_ mF 0 y (Nat.lt_of_le_of_lt hfew (by decide)) (by omega) ⟨yF_rf _ _, Or.inl ⟨by omega, h0⟩⟩
  · intro n' s hI
    show Q (f_X11_knowsOne_L19 (nI k) (nI v) S (n' + 1) (nI (g_n (bk_B A V) 256)) s kk)
    rw [f_X11_knowsOne_L19, hI.1.1 279 34 (fun z => by omega), hbl.1, if_pos ((nI_leI (by omega) (by omega)).mpr (Nat.le_refl _))]
    refine hq s hI.1 ?_
    rcases hI.2 with z | z
    · omega
    · exact z.2
  · intro n' j s hj hI ih
    show Q (f_X11_knowsOne_L19 (nI k) (nI v) S (n' + 1) (nI j) s kk)
    obtain ⟨m, m1, m2, m3⟩ := g_n_sel hj
    have e295 : s.1 295 j = nI m := by
      rw [hI.1.1 295 j (fun z => by omega), ← m3]
      exact hbl.2 m m2
    have own := own_iff hN h1 h2 h3 hn hnb m2
    have skip : m ≠ n → Q (f_X11_knowsOne_L19 (nI k) (nI v) S n' (nI (j + 1)) s kk) := by
      intro hne
      have : j ≠ g_n (bk_B A V) n := fun e => hne (g_n_inj m2 hB (m3.trans e))
      refine ih s ⟨hI.1, ?_⟩
      rcases hI.2 with z | z
      · exact Or.inl ⟨by omega, z.2⟩
      · exact Or.inr ⟨by omega, z.2⟩
    rw [f_X11_knowsOne_L19, hI.1.1 279 34 (fun z => by omega), hbl.1, if_neg (fun z => absurd ((nI_leI (by omega) (by omega)).mp z) (by omega)), if_pos (in_ok (by omega) (by decide)), cl (by omega), e295, nI_1]
    by_cases c1 : bt (nI m) v = true
    · rw [if_neg (h11t (by omega) c1), if_pos (in_ok (by omega) (by decide))]
      by_cases c2 : (nI m &&& S) = 0
      · rw [if_pos c2]
        rw [b_and0] at c2
        refine skip (fun e => ?_)
        obtain ⟨_, u, u1, u2⟩ := own.mpr e
        exact c2 u u1 ((hS u).mpr u2)
      · rw [if_neg c2, if_pos (in_ok (by omega) (by decide)), if_pos (in_ok hk (by decide)), cl (by omega), m_let]
        have e : m = n := own.mp ⟨c1, Classical.byContradiction fun hc => c2 (b_and0.mpr fun i i1 i2 => hc ⟨i, i1, (hS i).mp i2⟩)⟩
        refine ih _ ⟨yF_set hI.1 ⟨rfl, rfl⟩, Or.inr ⟨?_, by rw [ys_eq, e]⟩⟩
        rw [← e, m3]; omega
    · rw [if_pos (h11f (by omega) c1)]
      exact skip (fun e => c1 (own.mpr e).1)
theorem knowsOne_2 {P : Int32} (hN : g_N A (bS P)) (h8 : b8 P) {r v p n : Nat} (hr : r < 8) (h1 : g_C A (bS P) v r) (h2 : v ≠ r) (h3 : g_H A (bS P) r v p) (hnb : ∀ i, bt (nI n) i = true ↔ g_B A (bS P) v p i) (y : mY) (hE : nA (fun p => y.1 293 (8 * 1 + p)) = A) (hrB : ¬ g_B A (bS P) v p r) {Q : Option mY → Prop} (kk : Int32 → Option mY) (hq : Q (kk (nI p))) : Q (f_X11_knowsOne_L97 (nI r) P (nI n) mF (nI r) 0 y kk) := by
  have b := tb_B hN h1 h2 h3
  have hp8 := b.2.2.2.2 p b.2.2.1
  refine lp_up 8 (fun n' b (s : Int32) => f_X11_knowsOne_L97 (nI r) P (nI n) n' s b y kk) (fun j s => s = nI (if p < j then p else r)) Q ?_ ?_ mF 0 (nI r) (by decide) (by decide) (by rw [if_neg (by omega)])
  · intro n' s hI
    show Q (f_X11_knowsOne_L97 (nI r) P (nI n) (n' + 1) s (nI 8) y kk)
    rw [f_X11_knowsOne_L97, if_pos (by decide), hI, if_pos hp8]
    exact hq
  · intro n' j s hj hI ih
    show Q (f_X11_knowsOne_L97 (nI r) P (nI n) (n' + 1) s (nI j) y kk)
    rw [f_X11_knowsOne_L97, if_neg (k8f hj), nI_1]
    have skip : j ≠ p → Q (f_X11_knowsOne_L97 (nI r) P (nI n) n' s (nI (j + 1)) y kk) := by
      intro hne
      refine ih s ?_
      rw [hI]
      by_cases c : p < j
      · rw [if_pos c, if_pos (by omega)]
      · rw [if_neg c, if_neg (by omega)]
    by_cases c1 : bt (nI n) j = true
    · rw [if_neg (h11t (by omega) c1)]
      have hBj := (hnb j).mp c1
      have hW : ∀ i, bt ((P &&& (nI n ^^^ (-1 : Int32))) ||| ((1 : Int32) <<< (nI j &&& 31))) i = true ↔ ((bS P i ∧ ¬ g_B A (bS P) v p i) ∨ i = j) := fun i => by
        rw [b_or, b_bit (by omega), b_wos, Bool.or_eq_true, Bool.and_eq_true, decide_eq_true_eq]
        refine or_congr (and_congr Iff.rfl ?_) Iff.rfl
        rw [← hnb i]
        simp
      have hW8 : b8 ((P &&& (nI n ^^^ (-1 : Int32))) ||| ((1 : Int32) <<< (nI j &&& 31))) := b8_or (b8_andl h8) (b8_bit hj)
      obtain ⟨C, e, hC⟩ := comes_ok (w := 1) (by decide) hW8 y hr ((hW r).mpr (Or.inl ⟨g_in h1, hrB⟩))
      rw [hE, show bS ((P &&& (nI n ^^^ (-1 : Int32))) ||| ((1 : Int32) <<< (nI j &&& 31))) = (fun c => (bS P c ∧ ¬ g_B A (bS P) v p c) ∨ c = j) from funext fun i => propext (hW i)] at hC
      rw [show (1 : Int32) <<< (nI j &&& 31) = (1 : Int32) <<< (nI j &&& 31) from rfl, show f_X11_comes (1 : Int32) = f_X11_comes (nI 1) from rfl, e, Option.bind_some]
      have gate := g_H_gate hN.1 h1 h2 h3 hrB hBj
      by_cases c2 : bt C j = true
      · rw [if_neg (h11t (by omega) c2)]
        have := gate.mp ((hC j).mp c2)
        refine ih _ ?_
        rw [if_pos (by omega), this]
      · rw [if_pos (h11f (by omega) c2)]
        exact skip (fun e => c2 ((hC j).mpr (gate.mpr e)))
    · rw [if_pos (h11f (by omega) c1)]
      exact skip (fun e => c1 ((hnb j).mpr (e ▸ b.2.2.1)))
end K1
