/-! ===== grow: the class's scan ===== -/
section R7
variable {A : Nat → Nat → Prop} {P : Int32}
/-- the link of code c may be picked -/
def ucn (A : Nat → Nat → Prop) (P : Int32) (c : Nat) : Prop := bS P (c / 8) ∧ bS P (c % 8) ∧ c / 8 < c % 8 ∧ ¬ A (c / 8) (c % 8)
def pn (A : Nat → Nat → Prop) (S : Nat → Prop) (j : Nat) : Nat → Nat → Prop := pl_S A (fun c => c / 8) (fun c => c % 8) S j
def gX (q : Nat) : Prop := q = 256 ∨ q = 257 ∨ q = 259 ∨ q = 260 ∨ q = 262
def gS (A : Nat → Nat → Prop) (P : Int32) (S : Nat → Prop) (j : Nat) : Prop := (∀ c, S c → ucn A P c ∧ c < j) ∧ ∀ c, c < j → ucn A P c → (S c ↔ nd (aj (pn A S c) (c / 8) (c % 8)) (bS P) < nd (pn A S c) (bS P))
def gI (A : Nat → Nat → Prop) (P : Int32) (x0 : mX) (j : Nat) (s : Int32 × mX) : Prop := ∃ S, gS A P S j ∧ ga s.2 (pn A S j) P ∧ s.1 = nI (nd (pn A S j) (bS P)) ∧ s.2.1 256 0 = nI (g_n S j) ∧ (∀ c, c < j → S c → s.2.1 257 (g_n S c) = nI (10 * (c / 8) + c % 8)) ∧ xW gX x0 s.2 ∧ s.2.1 256 2 = x0.1 256 2
theorem ucn_lk (N : Nat) : lk (bS P) (fun c => c / 8) (fun c => c % 8) (ucn A P) N := fun j _ h => ⟨h.1, h.2.1, Nat.ne_of_lt h.2.2.1⟩
theorem gS_gd {S : Nat → Prop} {j : Nat} (h : gS A P S j) : gd A (bS P) (fun c => c / 8) (fun c => c % 8) (ucn A P) S j := ⟨fun c hc => (h.1 c hc).1, fun c hc hu => h.2 c hc hu⟩
theorem gS_n (hN : g_N A (bS P)) {S : Nat → Prop} {j : Nat} (h : gS A P S j) : nd (pn A S j) (bS P) + g_n S j = nd A (bS P) := gd_n hN (ucn_lk j) (gS_gd h) j (Nat.le_refl j)
theorem gS_N (hN : g_N A (bS P)) {S : Nat → Prop} {j : Nat} (h : gS A P S j) : g_N (pn A S j) (bS P) := pl_N hN (ucn_lk j) (fun c hc => (h.1 c hc).1) j (Nat.le_refl j)
theorem gI_skip {x0 : mX} {j : Nat} {k : Int32} {x x' : mX} {S : Nat → Prop} (h : gS A P S j) (hg : ga x' (pn A S j) P) (hk : k = nI (nd (pn A S j) (bS P))) (h0 : x.1 256 0 = nI (g_n S j)) (hp : ∀ c, c < j → S c → x.1 257 (g_n S c) = nI (10 * (c / 8) + c % 8)) (hW : xW gX x0 x) (h2 : x.1 256 2 = x0.1 256 2) (w : xW (fun q => q = 259 ∨ q = 260 ∨ q = 262) x x') (hu : ucn A P j → ¬ nd (aj (pn A S j) (j / 8) (j % 8)) (bS P) < nd (pn A S j) (bS P)) : gI A P x0 (j + 1) (k, x') := by
  have nj : ¬ S j := fun z => Nat.lt_irrefl j (h.1 j z).2
  have e : pn A S (j + 1) = pn A S j := pl_out nj
  have e256 : x'.1 256 = x.1 256 := w.1 256 (by omega)
  have e257 : x'.1 257 = x.1 257 := w.1 257 (by omega)
  refine ⟨S, ⟨fun c hc => ⟨(h.1 c hc).1, Nat.lt_succ_of_lt (h.1 c hc).2⟩, fun c hc huc => ?_⟩, ?_, ?_, ?_, fun c hc hS => ?_, xW_tr hW (xW_mo w (fun q hq => Or.inr (Or.inr hq))), ?_⟩
  · by_cases ec : c = j
    · subst ec
      exact ⟨fun z => absurd z nj, fun z => absurd z (hu huc)⟩
    · exact h.2 c (by omega) huc
  · rw [e]; exact hg
  · rw [e]; exact hk
  · rw [g_n_stay _ nj]
    show x'.1 256 0 = _
    rw [e256]; exact h0
  · show x'.1 257 _ = _
    rw [e257]; exact hp c (h.1 c hS).2 hS
  · show x'.1 256 2 = _
    rw [e256]; exact h2
theorem gI_take (hN : g_N A (bS P)) {x0 : mX} {j : Nat} {x x' : mX} {S : Nat → Prop} (h : gS A P S j) (hu : ucn A P j) (hlt : nd (aj (pn A S j) (j / 8) (j % 8)) (bS P) < nd (pn A S j) (bS P)) (hg : ga x' (aj (pn A S j) (j / 8) (j % 8)) P) (h0 : x.1 256 0 = nI (g_n S j)) (hp : ∀ c, c < j → S c → x.1 257 (g_n S c) = nI (10 * (c / 8) + c % 8)) (hW : xW gX x0 x) (h2 : x.1 256 2 = x0.1 256 2) (w : xW (fun q => q = 259 ∨ q = 260 ∨ q = 262) x x') : gI A P x0 (j + 1) (nI (nd (pn A S j) (bS P) - 1), m_xs (m_xs x' 257 (g_n S j) (nI (10 * (j / 8) + j % 8))) 256 0 (nI (g_n S j + 1))) := by
  have nj : ¬ S j := fun z => Nat.lt_irrefl j (h.1 j z).2
  have cg : ∀ n, n ≤ j → ∀ c, c < n → ((S c ∨ c = j) ↔ S c) := fun n hn c hc => ⟨fun z => z.resolve_right (by omega), Or.inl⟩
  have ec : ∀ n, n ≤ j → pn A (fun c => S c ∨ c = j) n = pn A S n := fun n hn => pl_cong (cg n hn)
  have en : ∀ n, n ≤ j → g_n (fun c => S c ∨ c = j) n = g_n S n := fun n hn => g_n_cong n (cg n hn)
  have sj : (fun c => S c ∨ c = j) j := Or.inr rfl
  have e1 : pn A (fun c => S c ∨ c = j) (j + 1) = aj (pn A S j) (j / 8) (j % 8) := by
    have := pl_in (A := A) (P := fun c => S c ∨ c = j) (ex := fun c => c / 8) (ey := fun c => c % 8) (j := j) sj
    show pl_S A _ _ _ (j + 1) = _
    rw [this]
    show aj (pn A (fun c => S c ∨ c = j) j) (j / 8) (j % 8) = _
    rw [ec j (Nat.le_refl j)]
  have n1 : g_n (fun c => S c ∨ c = j) (j + 1) = g_n S j + 1 := by rw [g_n_step (P := fun c => S c ∨ c = j) j sj, en j (Nat.le_refl j)]
  have down := nd_down (gS_N hN h) hu.1 hu.2.1 (Nat.ne_of_lt hu.2.2.1)
  have e256 : x'.1 256 = x.1 256 := w.1 256 (by omega)
  have e257 : x'.1 257 = x.1 257 := w.1 257 (by omega)
  refine ⟨fun c => S c ∨ c = j, ⟨fun c hc => ?_, fun c hc huc => ?_⟩, ?_, ?_, ?_, fun c hc hS => ?_, ?_, ?_⟩
  · rcases hc with hc | hc
    · exact ⟨(h.1 c hc).1, Nat.lt_succ_of_lt (h.1 c hc).2⟩
    · subst hc; exact ⟨hu, Nat.lt_succ_self _⟩
  · rw [ec c (by omega)]
    by_cases e : c = j
    · subst e
      exact ⟨fun _ => hlt, fun _ => Or.inr rfl⟩
    · have := h.2 c (by omega) huc
      exact ⟨fun z => this.mp (z.resolve_right e), fun z => Or.inl (this.mpr z)⟩
  · rw [e1]
    refine ⟨?_, ?_, ?_⟩
    · rw [xs_ne (by decide), xs_ne (by decide)]; exact hg.1
    · rw [xs_ne (by decide), xs_ne (by decide)]; exact hg.2.1
    · unfold n_div
      rw [xs_ne (by decide), xs_ne (by decide), xs_ne (by decide), xs_ne (by decide)]
      exact hg.2.2
  · rw [e1]
    show nI _ = nI _
    congr 1
    omega
  · rw [n1]
    show (m_xs _ 256 0 _).1 256 0 = _
    rw [xs_eq]
  · show (m_xs _ 256 0 _).1 257 _ = _
    rw [xs_ne (by decide), en c (by omega)]
    by_cases e : c = j
    · subst e
      rw [xs_eq]
    · have hs := hS.resolve_right e
      have lt : g_n S c < g_n S j := by
        have h1 := g_n_add (P := S) (c + 1) (j - (c + 1))
        rw [show c + 1 + (j - (c + 1)) = j by have := (h.1 c hs).2; omega, g_n_step _ hs] at h1
        omega
      rw [xs_ec (by omega), e257]
      exact hp c (h.1 c hs).2 hs
  · exact xW_set (xW_set (xW_tr hW (xW_mo w (fun q hq => Or.inr (Or.inr hq)))) (Or.inr (Or.inl rfl))) (Or.inl rfl)
  · show (m_xs _ 256 0 _).1 256 2 = _
    rw [xs_ec (by decide), xs_ne (by decide), e256]
    exact h2
theorem gI_far {x0 : mX} {j : Nat} {s : Int32 × mX} : ∀ n, (∀ c, j ≤ c → c < j + n → ¬ ucn A P c) → gI A P x0 j s → gI A P x0 (j + n) s
  | 0, _, h => h
  | n + 1, hn, h => by
    obtain ⟨S, s1, s2, s3, s4, s5, s6, s7⟩ := gI_far n (fun c h1 h2 => hn c h1 (by omega)) h
    exact gI_skip s1 s2 s3 s4 s5 s6 s7 (xW_rf _ _) (fun z => absurd z (hn (j + n) (by omega) (by omega)))
end R7
