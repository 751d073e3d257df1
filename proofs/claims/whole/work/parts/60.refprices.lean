/-! ===== the reference's cheapest ===== -/
theorem mr_ex {P : Nat → Prop} : ∃ r, mr P r := by
  by_cases h : ∃ c, P c
  · obtain ⟨c, hc⟩ := h
    obtain ⟨q, q1, q2⟩ := g_min hc
    exact ⟨q, Or.inl ⟨q1, fun c hc => Classical.byContradiction fun z => q2 c (by omega) hc⟩⟩
  · exact ⟨1000000, Or.inr ⟨fun c hc => h ⟨c, hc⟩, rfl⟩⟩
theorem mr_le {P : Nat → Prop} {r : Nat} (hP : ∀ c, P c → c < 1000000) (h : mr P r) : r ≤ 1000000 := by
  rcases h with ⟨a, _⟩ | ⟨_, a⟩
  · have := hP r a; omega
  · omega
/-- a candidate: the least of Q, or beyond FAR -/
def cd (Q : Nat → Prop) (k : Nat) : Prop := (Q k ∧ ∀ c, Q c → k ≤ c) ∨ ((∀ c, ¬ Q c) ∧ 1000000 ≤ k)
theorem mr_or {P Q : Nat → Prop} {m k : Nat} (hP : ∀ c, P c → c < 1000000) (hQ : ∀ c, Q c → c < 1000000) (hm : mr P m) (hk : cd Q k) : (m ≤ k → mr (fun c => P c ∨ Q c) m) ∧ (k < m → mr (fun c => P c ∨ Q c) k) := by
  have hml := mr_le hP hm
  constructor
  · intro h
    rcases hm with ⟨a1, a2⟩ | ⟨a1, a2⟩
    · refine Or.inl ⟨Or.inl a1, fun c hc => hc.elim (a2 c) (fun z => ?_)⟩
      rcases hk with ⟨b1, b2⟩ | ⟨b1, _⟩
      · exact Nat.le_trans h (b2 c z)
      · exact absurd z (b1 c)
    · refine Or.inr ⟨fun c hc => hc.elim (a1 c) (fun z => ?_), a2⟩
      rcases hk with ⟨b1, b2⟩ | ⟨b1, _⟩
      · have := hQ k b1; omega
      · exact b1 c z
  · intro h
    rcases hk with ⟨b1, b2⟩ | ⟨_, b2⟩
    · refine Or.inl ⟨Or.inr b1, fun c hc => hc.elim (fun z => ?_) (b2 c)⟩
      rcases hm with ⟨a1, a2⟩ | ⟨a1, _⟩
      · have := a2 c z; omega
      · exact absurd z (a1 c)
    · omega
theorem mr_add {P Q : Nat → Prop} {r k : Nat} (hr : mr P r) (hk : mr Q k) : cd (fun c => ∃ c' w, P c' ∧ Q w ∧ c = c' + w) (r + k) := by
  rcases hr with ⟨a1, a2⟩ | ⟨a1, a2⟩
  · rcases hk with ⟨b1, b2⟩ | ⟨b1, b2⟩
    · refine Or.inl ⟨⟨r, k, a1, b1, rfl⟩, ?_⟩
      rintro c ⟨c', w, h1, h2, h3⟩
      have := a2 c' h1
      have := b2 w h2
      omega
    · exact Or.inr ⟨fun c ⟨c', w, _, h2, _⟩ => b1 w h2, by omega⟩
  · exact Or.inr ⟨fun c ⟨c', w, h1, _, _⟩ => a1 c' h1, by omega⟩
theorem e1M : (1000000 : Int32) = nI 1000000 := rfl
section V4
variable {σ : Nat → Int32} {L : Int32} {np s d : Nat}
/-- the reference's net 0 stands -/
def nY0 (y : mY) (σ : Nat → Int32) (L : Int32) : Prop := y.1 289 = σ ∧ ∀ p q, p < 8 → q < 8 → (sA σ L p q ↔ bt (y.1 293 p) q = true)
theorem costOf_ok (hW : sW σ np) (hL : ∀ l, bt L l = true → l < sm σ) {a b : Nat} (ha : a < 8) (hb : b < 8) (y : mY) (hy : nY0 y σ L) : ∃ r, f_X11_costOf (nI a) (nI b) y = some (nI r) ∧ mr (fun c => sC σ L a b c) r ∧ r ≤ 1000000 := by
  unfold f_X11_costOf
  rw [if_pos (in_ok (by omega) (by decide)), cl (by omega)]
  by_cases c : bt (y.1 293 a) b = true
  · obtain ⟨_, _, l, l1, l2, l3⟩ := (hy.2 a b ha hb).mpr c
    have hl := hL l l2
    obtain ⟨w, w1, w2, w3⟩ := hW.2.2.2.2.2.2.2.2 l hl
    rw [if_neg (h11t (by omega) c), between_at (np := np) y (by rw [hy.1]; exact hW) ha hb (by rw [hy.1]; exact hl) (by rw [hy.1]; exact l3), Option.bind_some, a40, if_pos (in_ok (by omega) (by decide)), cl (by omega), hy.1, w3]
    have hC : sC σ L a b w := ⟨ha, hb, l, hl, l2, l3, w3, w1, w2⟩
    exact ⟨w, rfl, Or.inl ⟨hC, fun c hc => Nat.le_of_eq ((sC_W hW L).2 _ _ _ _ hC hc)⟩, by omega⟩
  · rw [if_pos (h11f (by omega) c)]
    refine ⟨1000000, rfl, Or.inr ⟨fun w hw => c ((hy.2 a b ha hb).mp ?_), rfl⟩, Nat.le_refl _⟩
    obtain ⟨h1, h2, l, l1, l2, l3, _⟩ := hw
    exact ⟨h1, h2, l, Nat.lt_of_lt_of_le l1 hW.2.2.1, l2, l3⟩
def wy_W (q c : Nat) : Prop := q = 311 ∨ q = 312
theorem nY0_F {y y' : mY} (h : yF wy_W y y') (hy : nY0 y σ L) : nY0 y' σ L := by
  have q : ∀ q, q ≠ 311 → q ≠ 312 → y'.1 q = y.1 q := fun q h1 h2 => yF_row h (fun c z => by rcases z with z | z <;> omega)
  unfold nY0
  rw [q 289 (by decide) (by decide), q 293 (by decide) (by decide)]
  exact hy
/-- costs of ways over T as byLast has them -/
def bl_ok (y : mY) (V : Nat → Nat → Nat → Prop) (s t : Nat) : Prop := ∀ p, p < 8 → bt (nI t) p = true → ∃ r, y.1 311 (8 * t + p) = nI r ∧ mr (fun c => pw V s (bS (nI t)) p c) r ∧ r ≤ 1000000
theorem ways_1 (hW : sW σ np) (hL : ∀ l, bt L l = true → l < sm σ) {p rs : Nat} (hp : p < 8) (hrs : rs < 256) (y : mY) (hy : nY0 y σ L) (hbl : bl_ok y (sC σ L) s rs) {P0 : Nat → Prop} (hP0 : ∀ c, P0 c → c < 1000000) {r0 : Nat} (h0 : mr P0 r0) {Q : Option mY → Prop} (kk : Int32 → Option mY) (hq : ∀ m, m ≤ 1000000 → mr (fun c => P0 c ∨ ∃ q c' w, pw (sC σ L) s (bS (nI rs)) q c' ∧ sC σ L q p w ∧ c = c' + w) m → Q (kk (nI m))) : Q (f_X11_laysWays_L142 (nI p) (nI rs) mF (nI r0) 0 y kk) := by
  have hWW := sC_W hW L
  have hlt : ∀ q c' w, pw (sC σ L) s (bS (nI rs)) q c' → sC σ L q p w → c' + w < 1000000 := fun q c' w h1 h2 => by
    have := pw_lt hWW h1
    have := (hWW.1 _ _ _ h2).2.2.1
    omega
  have hPj : ∀ (j : Nat) c, (P0 c ∨ ∃ q c' w, q < j ∧ pw (sC σ L) s (bS (nI rs)) q c' ∧ sC σ L q p w ∧ c = c' + w) → c < 1000000 := fun j c h => by
    rcases h with h | ⟨q, c', w, _, h1, h2, h3⟩
    · exact hP0 c h
    · have := hlt q c' w h1 h2; omega
  refine lp_up 8 (fun n b (m : Nat) => f_X11_laysWays_L142 (nI p) (nI rs) n (nI m) b y kk) (fun j m => mr (fun c => P0 c ∨ ∃ q c' w, q < j ∧ pw (sC σ L) s (bS (nI rs)) q c' ∧ sC σ L q p w ∧ c = c' + w) m) Q ?_ ?_ mF 0 r0 (by decide) (by decide) ((mr_cong (fun c => ⟨Or.inl, fun h => h.elim id (fun ⟨q, c', w, h1, _⟩ => by omega)⟩)).mp h0)
  · intro n m hI
    show Q (f_X11_laysWays_L142 (nI p) (nI rs) (n + 1) (nI m) (nI 8) y kk)
    rw [f_X11_laysWays_L142, if_pos (by decide)]
    refine hq m (mr_le (hPj 8) hI) ((mr_cong (fun c => ?_)).mp hI)
    refine or_congr Iff.rfl ⟨fun ⟨q, c', w, _, h⟩ => ⟨q, c', w, h⟩, fun ⟨q, c', w, h1, h2, h3⟩ => ⟨q, c', w, (hWW.1 _ _ _ h2).2.2.2.1, h1, h2, h3⟩⟩
  · intro n j m hj hI ih
    show Q (f_X11_laysWays_L142 (nI p) (nI rs) (n + 1) (nI m) (nI j) y kk)
    have hml := mr_le (hPj j) hI
    rw [f_X11_laysWays_L142, if_neg (k8f hj), nI_1]
    have conv : ∀ m', mr (fun c => (P0 c ∨ ∃ q c' w, q < j ∧ pw (sC σ L) s (bS (nI rs)) q c' ∧ sC σ L q p w ∧ c = c' + w) ∨ ∃ c' w, pw (sC σ L) s (bS (nI rs)) j c' ∧ sC σ L j p w ∧ c = c' + w) m' → Q (f_X11_laysWays_L142 (nI p) (nI rs) n (nI m') (nI (j + 1)) y kk) := by
      intro m' hm'
      refine ih m' ((mr_cong (fun c => ?_)).mp hm')
      constructor
      · rintro ((h | ⟨q, c', w, h1, h2⟩) | ⟨c', w, h1⟩)
        · exact Or.inl h
        · exact Or.inr ⟨q, c', w, by omega, h2⟩
        · exact Or.inr ⟨j, c', w, by omega, h1⟩
      · rintro (h | ⟨q, c', w, h1, h2⟩)
        · exact Or.inl (Or.inl h)
        · by_cases e : q = j
          · subst e; exact Or.inr ⟨c', w, h2⟩
          · exact Or.inl (Or.inr ⟨q, c', w, by omega, h2⟩)
    by_cases c1 : bt (nI rs) j = true
    · obtain ⟨r, r1, r2, r3⟩ := hbl j hj c1
      obtain ⟨k, k1, k2, k3⟩ := costOf_ok hW hL hj hp y hy
      have hor := mr_or (hPj j) (fun c ⟨c', w, h1, h2, h3⟩ => by have := hlt j c' w h1 h2; omega) hI (mr_add r2 k2)
      rw [if_neg (h11t (by omega) c1), show (8 : Int32) * nI rs = nI (8 * rs) from pk_mul 8 rs, nI_add, if_pos (in_ok (by omega) (by decide)), cl (by omega), k1, Option.bind_some, r1, nI_add]
      by_cases c2 : m ≤ r + k
      · rw [if_pos ((nI_leI (by omega) (by omega)).mpr c2)]
        exact conv m (hor.1 c2)
      · rw [if_neg (fun z => c2 ((nI_leI (by omega) (by omega)).mp z)), if_pos (in_ok (by omega) (by decide)), Option.bind_some, nI_add]
        exact conv (r + k) (hor.2 (by omega))
    · rw [if_pos (h11f (by omega) c1)]
      refine conv m ((mr_cong (fun c => ⟨Or.inl, fun h => h.elim id (fun ⟨c', w, h1, _⟩ => ?_)⟩)).mp hI)
      exact absurd (pw_rec.mp h1).1 c1
end V4
