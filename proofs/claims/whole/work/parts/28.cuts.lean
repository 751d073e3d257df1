/-! ===== counting, cells, bits; cuts, bridges ===== -/
theorem g_n_php (N : Nat) (R : Nat → Nat → Prop) (hR : ∀ c d v, c < N → d < N → R c v → R d v → c = d) : ∀ (M : Nat) (P : Nat → Prop), (∀ c, c < N → P c → ∃ v, v < M ∧ R c v) → g_n P N ≤ M
  | 0, P, h => by
    rw [g_n_zero N (fun c hc hp => by obtain ⟨v, hv, _⟩ := h c hc hp; omega)]
    exact Nat.le_refl _
  | M + 1, P, h => by
    have e := g_n_split (P := P) (Q := fun c => R c M) N
    have h1 : g_n (fun c => P c ∧ R c M) N ≤ 1 := g_n_atmost N (fun j k hj hk a b => hR j k M hj hk a.2 b.2)
    have h2 : g_n (fun c => P c ∧ ¬ R c M) N ≤ M := g_n_php N R hR M _ (fun c hc hp => by
      obtain ⟨v, hv, hr⟩ := h c hc hp.1
      refine ⟨v, ?_, hr⟩
      have : v ≠ M := fun e => hp.2 (e ▸ hr)
      omega)
    omega
def sumb (f : Nat → Bool) : Nat → Nat
  | 0 => 0
  | n + 1 => sumb f n + (f n).toNat
theorem sumb_g (f : Nat → Bool) : ∀ n, g_n (fun i => f i = true) n = sumb f n
  | 0 => rfl
  | n + 1 => by
    show g_n (fun i => f i = true) n + @ite Nat (f n = true) (Classical.propDecidable _) 1 0 = sumb f n + (f n).toNat
    rw [sumb_g f n]
    by_cases h : f n = true
    · rw [if_pos h, h]; rfl
    · rw [if_neg h, show f n = false by simpa using h]; rfl
theorem bits_mono : ∀ n k a s r, f_X11_bitsOf_L4 n a s = some r → f_X11_bitsOf_L4 (n + k) a s = some r
  | 0, _, _, _, _, h => by rw [f_X11_bitsOf_L4] at h; cases h
  | n + 1, k, a, s, r, h => by
    rw [show n + 1 + k = (n + k) + 1 by omega, f_X11_bitsOf_L4]
    rw [f_X11_bitsOf_L4] at h
    by_cases c : s ≤ 0
    · rw [if_pos c] at h ⊢; exact h
    · rw [if_neg c] at h ⊢; exact bits_mono n k _ _ _ h
theorem bits_small : ∀ n, n < 256 → f_X11_bitsOf_L4 20 0 (nI n) = some (nI (sumb (bt (nI n)) 8)) := by decide +kernel
theorem bitsOf_ok {s : Int32} (h : b8 s) : f_X11_bitsOf s = some (nI (g_n (bS s) 8)) := by
  obtain ⟨n, hn, rfl⟩ := b8_num h
  have e := bits_mono 20 99980 0 (nI n) _ (bits_small n hn)
  rw [show g_n (bS (nI n)) 8 = sumb (bt (nI n)) 8 from sumb_g (bt (nI n)) 8]
  exact e
theorem bitCount_small : ∀ n, n < 256 → f_J6_bitCount_0f7a4 (nI n) = some (nI (sumb (bt (nI n)) 8)) := by decide +kernel
theorem bitCount_ok {s : Int32} (h : b8 s) : f_J6_bitCount_0f7a4 s = some (nI (g_n (bS s) 8)) := by
  obtain ⟨n, hn, rfl⟩ := b8_num h
  rw [show g_n (bS (nI n)) 8 = sumb (bt (nI n)) 8 from sumb_g (bt (nI n)) 8]
  exact bitCount_small n hn
theorem g_n_2 {P : Nat → Prop} {n : Nat} : 2 ≤ g_n P n ↔ ∃ a b, a < n ∧ b < n ∧ P a ∧ P b ∧ a ≠ b := by
  constructor
  · intro h
    refine Classical.byContradiction fun hc => ?_
    have := g_n_atmost n (P := P) (fun j k hj hk pj pk => Classical.byContradiction fun hne => hc ⟨j, k, hj, hk, pj, pk, hne⟩)
    omega
  · rintro ⟨a, b, ha, hb, pa, pb, hab⟩
    exact g_n_two n a b hab ha hb pa pb
theorem b_sub {s t : Int32} : (s &&& (t ^^^ (-1 : Int32))) = 0 ↔ ∀ i, bt s i = true → bt t i = true := by
  constructor
  · intro h i hi
    refine Classical.byContradiction fun hc => ?_
    have h2 : bt (s &&& (t ^^^ (-1 : Int32))) i = true := by
      rw [b_wos, hi, show bt t i = false by simpa using hc]; rfl
    rw [h, b_0] at h2
    cases h2
  · intro h
    refine b_eq0 fun i hi => ?_
    rw [b_wos, Bool.and_eq_true] at hi
    rw [h i hi.1] at hi
    exact absurd hi.2 (by decide)
theorem bS_woE {P : Int32} {g : Nat} (hg : g < 32) : bS (P &&& (((1 : Int32) <<< (nI g &&& 31)) ^^^ (-1 : Int32))) = g_D (bS P) g := funext fun c => propext (bS_wo hg c)
/-- only cells of W differ -/
def yF (W : Nat → Nat → Prop) (y y' : mY) : Prop := (∀ q c, ¬ W q c → y'.1 q c = y.1 q c) ∧ y'.2 = y.2
def xF (W : Nat → Nat → Prop) (x x' : mX) : Prop := (∀ q c, ¬ W q c → x'.1 q c = x.1 q c) ∧ x'.2 = x.2
theorem yF_rf (W : Nat → Nat → Prop) (y : mY) : yF W y y := ⟨fun _ _ _ => rfl, rfl⟩
theorem xF_rf (W : Nat → Nat → Prop) (x : mX) : xF W x x := ⟨fun _ _ _ => rfl, rfl⟩
theorem yF_set {W : Nat → Nat → Prop} {q c : Nat} {y y' : mY} {v : Int32} (h : yF W y y') (hq : W q c) : yF W y (m_ys y' q c v) := by
  refine ⟨fun q' c' hn => ?_, h.2⟩
  rw [← h.1 q' c' hn]
  by_cases e : q' = q
  · subst e
    exact ys_ec (fun e => hn (by rw [e]; exact hq))
  · rw [ys_ne e]
theorem xF_set {W : Nat → Nat → Prop} {q c : Nat} {y y' : mX} {v : Int32} (h : xF W y y') (hq : W q c) : xF W y (m_xs y' q c v) := by
  refine ⟨fun q' c' hn => ?_, h.2⟩
  rw [← h.1 q' c' hn]
  by_cases e : q' = q
  · subst e
    exact xs_ec (fun e => hn (by rw [e]; exact hq))
  · rw [xs_ne e]
theorem yF_tr {W : Nat → Nat → Prop} {y y' y'' : mY} (h : yF W y y') (h' : yF W y' y'') : yF W y y'' := ⟨fun q c hq => (h'.1 q c hq).trans (h.1 q c hq), h'.2.trans h.2⟩
theorem xF_tr {W : Nat → Nat → Prop} {y y' y'' : mX} (h : xF W y y') (h' : xF W y' y'') : xF W y y'' := ⟨fun q c hq => (h'.1 q c hq).trans (h.1 q c hq), h'.2.trans h.2⟩
theorem yF_mo {W U : Nat → Nat → Prop} {y y' : mY} (h : yF W y y') (hm : ∀ q c, W q c → U q c) : yF U y y' := ⟨fun q c hq => h.1 q c (fun z => hq (hm q c z)), h.2⟩
theorem xF_mo {W U : Nat → Nat → Prop} {y y' : mX} (h : xF W y y') (hm : ∀ q c, W q c → U q c) : xF U y y' := ⟨fun q c hq => h.1 q c (fun z => hq (hm q c z)), h.2⟩
theorem yF_W {W : Nat → Prop} {y y' : mY} (h : yW W y y') : yF (fun q _ => W q) y y' := ⟨fun q c hq => by rw [h.1 q hq], h.2⟩
theorem xF_W {W : Nat → Prop} {y y' : mX} (h : xW W y y') : xF (fun q _ => W q) y y' := ⟨fun q c hq => by rw [h.1 q hq], h.2⟩
theorem yF_R {r lo hi : Nat} {y y' : mY} (h : yR r lo hi y y') : yF (fun q c => q = r ∧ lo ≤ c ∧ c < hi) y y' := by
  refine ⟨fun q c hq => ?_, h.2.1⟩
  by_cases e : q = r
  · subst e; exact h.2.2 c (by omega)
  · rw [h.1 q e]
theorem xF_R {r lo hi : Nat} {y y' : mX} (h : xR r lo hi y y') : xF (fun q c => q = r ∧ lo ≤ c ∧ c < hi) y y' := by
  refine ⟨fun q c hq => ?_, h.2.1⟩
  by_cases e : q = r
  · subst e; exact h.2.2 c (by omega)
  · rw [h.1 q e]
theorem yF_row {W : Nat → Nat → Prop} {y y' : mY} {q : Nat} (h : yF W y y') (hq : ∀ c, ¬ W q c) : y'.1 q = y.1 q := funext fun c => h.1 q c (hq c)
theorem xF_row {W : Nat → Nat → Prop} {y y' : mX} {q : Nat} (h : xF W y y') (hq : ∀ c, ¬ W q c) : y'.1 q = y.1 q := funext fun c => h.1 q c (hq c)
/-! pieces with a post less; cuts -/
section C1
variable {A A' : Nat → Nat → Prop} {V : Nat → Prop} {a b p : Nat}
/-- the first step from p, p left behind -/
theorem g_first {c : Nat} (h : g_C A V p c) (hc : c ≠ p) : ∃ u, A p u ∧ g_C A (g_D V p) u c := by
  have k := g_ind (P := fun c => c = p ∨ ∃ u, A p u ∧ g_C A (g_D V p) u c) h (Or.inl rfl) (by
    intro c d _ ih e hd
    by_cases hdp : d = p
    · exact Or.inl hdp
    · rcases ih with rfl | ⟨u, u1, u2⟩
      · exact Or.inr ⟨d, e, g_rf ⟨hd, hdp⟩⟩
      · exact Or.inr ⟨u, u1, g_st u2 e ⟨hd, hdp⟩⟩)
  exact k.resolve_left hc
/-- p is a cut: two of its neighbours don't come to one another without it -/
def g_K (A : Nat → Nat → Prop) (V : Nat → Prop) (p : Nat) : Prop := V p ∧ ∃ u v, A p u ∧ A p v ∧ V u ∧ V v ∧ u ≠ p ∧ v ≠ p ∧ ¬ g_C A (g_D V p) u v
theorem g_cut_n (hA : ∀ a b, A a b → A b a) (hV : ∀ c, V c → c < 8) (hp : V p) : g_n (g_L A V) 8 < g_n (g_L A (g_D V p)) 8 ↔ g_K A V p := by
  have e1 := g_n_split (P := g_L A V) (Q := fun c => g_C A V p c) 8
  have e2 := g_n_split (P := g_L A (g_D V p)) (Q := fun c => g_C A V p c) 8
  have h1 : g_n (fun c => g_L A V c ∧ g_C A V p c) 8 = 1 := by
    obtain ⟨m, m1, m2, _⟩ := g_L_ex (A := A) hp
    exact g_n_one 8 m (hV m m1.1) ⟨m1, m2⟩ (fun c _ hc => g_L_un hA hc.1 m1 (g_tr (g_sy hA hc.2) m2))
  have h2 : g_n (fun c => g_L A V c ∧ ¬ g_C A V p c) 8 = g_n (fun c => g_L A (g_D V p) c ∧ ¬ g_C A V p c) 8 := by
    refine g_n_cong 8 (fun c _ => ?_)
    constructor
    · rintro ⟨⟨l1, l2⟩, l3⟩
      exact ⟨⟨⟨l1, fun e => l3 (e ▸ g_rf (e ▸ l1))⟩, fun j hj hc => l2 j hj (g_out hc)⟩, l3⟩
    · rintro ⟨⟨l1, l2⟩, l3⟩
      refine ⟨⟨l1.1, fun j hj hc => ?_⟩, l3⟩
      rcases g_one (y := p) hc l1.2 with k | k
      · exact l2 j hj k
      · exact l3 (g_sy hA k)
  have h3 : 2 ≤ g_n (fun c => g_L A (g_D V p) c ∧ g_C A V p c) 8 ↔ g_K A V p := by
    rw [g_n_2]
    constructor
    · rintro ⟨c, d, _, _, ⟨c1, c2⟩, ⟨d1, d2⟩, hcd⟩
      obtain ⟨u, u1, u2⟩ := g_first c2 c1.1.2
      obtain ⟨v, v1, v2⟩ := g_first d2 d1.1.2
      exact ⟨hp, u, v, u1, v1, u2.1.1, v2.1.1, u2.1.2, v2.1.2, fun k => hcd (g_L_un hA c1 d1 (g_tr (g_sy hA u2) (g_tr k v2)))⟩
    · rintro ⟨_, u, v, u1, v1, hu, hv, hup, hvp, k⟩
      obtain ⟨c, c1, c2, _⟩ := g_L_ex (A := A) (V := g_D V p) (v := u) ⟨hu, hup⟩
      obtain ⟨d, d1, d2, _⟩ := g_L_ex (A := A) (V := g_D V p) (v := v) ⟨hv, hvp⟩
      refine ⟨c, d, hV c c1.1.1, hV d d1.1.1, ⟨c1, ?_⟩, ⟨d1, ?_⟩, fun e => k (g_tr c2 (e ▸ g_sy hA d2))⟩
      · exact g_fr u1 hp (g_out c2)
      · exact g_fr v1 hp (g_out d2)
  rw [← h3]
  omega
/-! a link less; bridges -/
theorem g_less (hs : ∀ c d, A' c d → A c d) (h : g_C A' V a b) : g_C A V a b := g_ind h (g_rf h.1) (fun _ _ _ hc e hd => g_st hc (hs _ _ e) hd)
theorem g_bridge_n (hA : ∀ a b, A a b → A b a) (hA' : ∀ a b, A' a b → A' b a) (hV : ∀ c, V c → c < 8) (hab : A a b) (ha : V a) (hb : V b) (hd : ∀ c d, A' c d ↔ A c d ∧ ¬ (c = a ∧ d = b) ∧ ¬ (c = b ∧ d = a)) : g_n (g_L A V) 8 < g_n (g_L A' V) 8 ↔ ¬ g_C A' V a b := by
  have hs : ∀ c d, A' c d → A c d := fun c d h => ((hd c d).mp h).1
  constructor
  · intro h k
    have same : ∀ c d, g_C A V c d → g_C A' V c d := by
      intro c d hcd
      refine g_ind hcd (g_rf hcd.1) (fun u v hu ih e hv => ?_)
      by_cases c1 : u = a ∧ v = b
      · rw [c1.2]; rw [c1.1] at ih; exact g_tr ih k
      · by_cases c2 : u = b ∧ v = a
        · rw [c2.2]; rw [c2.1] at ih; exact g_tr ih (g_sy hA' k)
        · exact g_st ih ((hd u v).mpr ⟨e, c1, c2⟩) hv
    have : g_n (g_L A' V) 8 ≤ g_n (g_L A V) 8 := g_n_le 8 (fun c _ hc => ⟨hc.1, fun j hj hcj => hc.2 j hj (same c j hcj)⟩)
    omega
  · intro k
    obtain ⟨m, m1, m2, _⟩ := g_L_ex (A := A') ha
    obtain ⟨q, q1, q2, _⟩ := g_L_ex (A := A') hb
    have hle : ∀ c, c < 8 → g_L A V c → g_L A' V c := fun c _ hc => ⟨hc.1, fun j hj hcj => hc.2 j hj (g_less hs hcj)⟩
    by_cases hm : g_L A V m
    · have hq : ¬ g_L A V q := fun hq => k (by
        have e : m = q := g_L_un hA hm hq (g_tr (g_sy hA (g_less hs m2)) (g_tr (g_st (g_rf ha) hab hb) (g_less hs q2)))
        exact g_tr m2 (e ▸ g_sy hA' q2))
      exact g_n_lt 8 q (hV q q1.1) hle q1 hq
    · exact g_n_lt 8 m (hV m m1.1) hle m1 hm
theorem g_bridge_b (hA : ∀ a b, A a b → A b a) (hne : a ≠ b) (hab : A a b) (ha : V a) (hb : V b) (hd : ∀ c d, A' c d ↔ A c d ∧ ¬ (c = a ∧ d = b) ∧ ¬ (c = b ∧ d = a)) : ¬ g_C A' V a b ↔ ∀ w, g_B A V a b w ↔ w = a ∨ w = b := by
  have hMab : g_M A V a b := ⟨g_st (g_rf ha) hab hb, fun y y1 y2 => g_st (g_rf ⟨ha, Ne.symm y1⟩) hab ⟨hb, Ne.symm y2⟩⟩
  have haB : g_B A V a b a := ⟨g_M_rf ha, g_M_sy hA hMab⟩
  have hbB : g_B A V a b b := ⟨hMab, g_M_rf hb⟩
  constructor
  · intro k w
    constructor
    · intro hw
      refine Classical.byContradiction fun hc => k ?_
      have hwa : w ≠ a := fun e => hc (Or.inl e)
      have hwb : w ≠ b := fun e => hc (Or.inr e)
      have k1 : g_C A (g_D V b) a w := g_M_c hw.1 hne hwb
      have k2 : g_C A (g_D V a) b w := g_M_c hw.2 (Ne.symm hne) hwa
      have t1 : g_C A' V a w := g_ind k1 (g_rf ha) (fun c d hc ih e hdv => g_st ih ((hd c d).mpr ⟨e, fun z => hdv.2 z.2, fun z => (g_in hc).2 z.1⟩) hdv.1)
      have t2 : g_C A' V w b := g_ind (P := fun z => g_C A' V z b) k2 (g_rf hb) (fun c d hc ih e hdv => g_fr ((hd d c).mpr ⟨hA _ _ e, fun z => hdv.2 z.1, fun z => (g_in hc).2 z.2⟩) hdv.1 ih)
      exact g_tr t1 t2
    · rintro (rfl | rfl)
      · exact haB
      · exact hbB
  · intro hB k
    have pr := g_ind (P := fun c => c = a ∨ (¬ g_B A V a b c ∧ ∃ w', A a w' ∧ g_C A (fun c => V c ∧ ¬ g_B A V a b c) w' c)) k (Or.inl rfl) (by
      intro c d _ ih e hdv
      have e' := (hd c d).mp e
      rcases ih with rfl | ⟨i1, w', i2, i3⟩
      · by_cases hdB : g_B A V c b d
        · rcases (hB d).mp hdB with h | h
          · exact Or.inl h
          · exact absurd ⟨rfl, h⟩ e'.2.1
        · exact Or.inr ⟨hdB, d, e'.1, g_rf ⟨hdv, hdB⟩⟩
      · by_cases hdB : g_B A V a b d
        · exact Or.inl (g_att hA i3 i2 e'.1 haB hdB).symm
        · exact Or.inr ⟨hdB, w', i2, g_st i3 e'.1 ⟨hdv, hdB⟩⟩)
    rcases pr with h | h
    · exact hne h.symm
    · exact h.1 hbB
end C1
