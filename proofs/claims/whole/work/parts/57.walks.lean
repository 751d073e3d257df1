/-! ===== costs of walks ===== -/
section V1
variable {W : Nat → Nat → Nat → Prop} {S : Nat → Prop} {s : Nat}
/-- links with their costs -/
def wW (W : Nat → Nat → Nat → Prop) : Prop := (∀ u v w, W u v w → W v u w ∧ 1 ≤ w ∧ w ≤ 99 ∧ u < 8 ∧ v < 8 ∧ u ≠ v) ∧ ∀ u v w w', W u v w → W u v w' → w = w'
/-- n links from s to v within S, of cost c -/
def wk (W : Nat → Nat → Nat → Prop) (S : Nat → Prop) (s : Nat) : Nat → Nat → Nat → Prop
  | 0, v, c => v = s ∧ c = 0 ∧ S s
  | n + 1, v, c => S v ∧ ∃ u c' w, wk W S s n u c' ∧ W u v w ∧ c = c' + w
/-- the least cost -/
def om (W : Nat → Nat → Nat → Prop) (S : Nat → Prop) (s v c : Nat) : Prop := (∃ n, wk W S s n v c) ∧ ∀ n c', wk W S s n v c' → c ≤ c'
theorem om_un {v c c' : Nat} (h : om W S s v c) (h' : om W S s v c') : c = c' := by
  obtain ⟨n, hn⟩ := h.1
  obtain ⟨m, hm⟩ := h'.1
  exact Nat.le_antisymm (h.2 m c' hm) (h'.2 n c hn)
theorem om_ex {n v c : Nat} (h : wk W S s n v c) : ∃ c, om W S s v c := by
  obtain ⟨c0, ⟨m, h1⟩, h2⟩ := g_min (P := fun c => ∃ n, wk W S s n v c) ⟨n, h⟩
  exact ⟨c0, ⟨m, h1⟩, fun k c' hk => Classical.byContradiction fun z => h2 c' (by omega) ⟨k, hk⟩⟩
theorem wk_S : ∀ n v c, wk W S s n v c → S v ∧ S s
  | 0, v, c, h => ⟨h.1 ▸ h.2.2, h.2.2⟩
  | n + 1, v, c, ⟨h, u, c', w, h1, _⟩ => ⟨h, (wk_S n u c' h1).2⟩
/-- a least walk's beginnings are least -/
theorem om_pre {n v c : Nat} (h : wk W S s (n + 1) v c) (hm : ∀ n c', wk W S s n v c' → c ≤ c') : ∃ u c' w, wk W S s n u c' ∧ (∀ n c'', wk W S s n u c'' → c' ≤ c'') ∧ W u v w ∧ c = c' + w ∧ S v := by
  obtain ⟨hS, u, c', w, h1, h2, h3⟩ := h
  refine ⟨u, c', w, h1, fun m c'' hc => ?_, h2, h3, hS⟩
  have := hm (m + 1) (c'' + w) ⟨hS, u, c'', w, hc, h2, rfl⟩
  omega
/-- a least walk, post by post -/
theorem om_chain (hW : wW W) : ∀ n v c, wk W S s n v c → (∀ n c', wk W S s n v c' → c ≤ c') → ∃ f g : Nat → Nat, f 0 = s ∧ f n = v ∧ g n = c ∧ g 0 = 0 ∧ (∀ j, j ≤ n → om W S s (f j) (g j) ∧ S (f j)) ∧ ∀ j, j < n → ∃ w, W (f j) (f (j + 1)) w ∧ g (j + 1) = g j + w
  | 0, v, c, h, hm => ⟨fun _ => s, fun _ => 0, rfl, h.1.symm, h.2.1.symm, rfl, fun j _ => ⟨⟨⟨0, rfl, rfl, h.2.2⟩, fun _ _ _ => Nat.zero_le _⟩, h.2.2⟩, fun j hj => by omega⟩
  | n + 1, v, c, h, hm => by
    obtain ⟨u, c', w, h1, h2, h3, h4, h5⟩ := om_pre h hm
    obtain ⟨f, g, f1, f2, f3, f0, f4, f5⟩ := om_chain hW n u c' h1 h2
    have hne : ∀ j, j ≤ n → j ≠ n + 1 := fun j hj => by omega
    refine ⟨fun j => if j = n + 1 then v else f j, fun j => if j = n + 1 then c else g j, ?_, ?_, ?_, ?_, fun j hj => ?_, fun j hj => ?_⟩
    · show (if 0 = n + 1 then v else f 0) = s
      rw [if_neg (by omega)]; exact f1
    · show (if n + 1 = n + 1 then v else f (n + 1)) = v
      rw [if_pos rfl]
    · show (if n + 1 = n + 1 then c else g (n + 1)) = c
      rw [if_pos rfl]
    · show (if 0 = n + 1 then c else g 0) = 0
      rw [if_neg (by omega)]; exact f0
    · show om W S s (if j = n + 1 then v else f j) (if j = n + 1 then c else g j) ∧ S (if j = n + 1 then v else f j)
      by_cases e : j = n + 1
      · rw [if_pos e, if_pos e]; exact ⟨⟨⟨n + 1, h⟩, hm⟩, h5⟩
      · rw [if_neg e, if_neg e]; exact f4 j (by omega)
    · show ∃ w, W (if j = n + 1 then v else f j) (if j + 1 = n + 1 then v else f (j + 1)) w ∧ (if j + 1 = n + 1 then c else g (j + 1)) = (if j = n + 1 then c else g j) + w
      rw [if_neg (show ¬ j = n + 1 by omega), if_neg (show ¬ j = n + 1 by omega)]
      by_cases e : j = n
      · rw [if_pos (show j + 1 = n + 1 by omega), if_pos (show j + 1 = n + 1 by omega), e, f2, f3]
        exact ⟨w, h3, h4⟩
      · rw [if_neg (show ¬ j + 1 = n + 1 by omega), if_neg (show ¬ j + 1 = n + 1 by omega)]
        exact f5 j (by omega)
theorem ch_lt {W : Nat → Nat → Nat → Prop} (hW : wW W) {n : Nat} {f g : Nat → Nat} (h : ∀ j, j < n → ∃ w, W (f j) (f (j + 1)) w ∧ g (j + 1) = g j + w) : ∀ i j, i < j → j ≤ n → g i < g j
  | i, 0, h1, _ => by omega
  | i, j + 1, h1, h2 => by
    obtain ⟨w, w1, w2⟩ := h j (by omega)
    have := (hW.1 _ _ _ w1).2.1
    by_cases e : i = j
    · subst e; omega
    · have := ch_lt hW h i j (by omega) (by omega)
      omega
theorem ch_inj (hW : wW W) {n : Nat} {f g : Nat → Nat} (h1 : ∀ j, j ≤ n → om W S s (f j) (g j) ∧ S (f j)) (h : ∀ j, j < n → ∃ w, W (f j) (f (j + 1)) w ∧ g (j + 1) = g j + w) {i j : Nat} (hi : i ≤ n) (hj : j ≤ n) (e : f i = f j) : i = j := by
  have eg : g i = g j := om_un (h1 i hi).1 (e ▸ (h1 j hj).1)
  rcases Nat.lt_trichotomy i j with k | k | k
  · have := ch_lt hW h i j k hj; omega
  · exact k
  · have := ch_lt hW h j i k hi; omega
theorem ch_7 (hW : wW W) (hS8 : ∀ p, S p → p < 8) {n : Nat} {f g : Nat → Nat} (h1 : ∀ j, j ≤ n → om W S s (f j) (g j) ∧ S (f j)) (h : ∀ j, j < n → ∃ w, W (f j) (f (j + 1)) w ∧ g (j + 1) = g j + w) : n ≤ 7 := by
  have k : g_n (fun j => j < n + 1) (n + 1) ≤ 8 := g_n_php (n + 1) (fun j u => f j = u) (fun a b u ha hb e1 e2 => ch_inj hW h1 h (by omega) (by omega) (e1.trans e2.symm)) 8 _ (fun j hj _ => ⟨f j, hS8 _ (h1 j (by omega)).2, rfl⟩)
  rw [g_n_below (n + 1) (Nat.le_refl _)] at k
  omega
/-- a least walk has seven links at most, and costs less than 700 -/
theorem om_7 (hW : wW W) (hS8 : ∀ p, S p → p < 8) {v c : Nat} (h : om W S s v c) : (∃ n, n ≤ 7 ∧ wk W S s n v c) ∧ c < 700 := by
  obtain ⟨⟨n, hn⟩, hm⟩ := h
  obtain ⟨f, g, f1, f2, f3, f0, f4, f5⟩ := om_chain hW n v c hn hm
  have h7 := ch_7 hW hS8 f4 f5
  refine ⟨⟨n, h7, hn⟩, ?_⟩
  have key : ∀ j, j ≤ n → g j ≤ 99 * j := by
    intro j
    induction j with
    | zero => intro _; omega
    | succ j ih =>
      intro hj
      obtain ⟨w, w1, w2⟩ := f5 j (by omega)
      have := (hW.1 _ _ _ w1).2.2.1
      have := ih (by omega)
      omega
  have := key n (Nat.le_refl _)
  omega
/-! the class's way to it: better and better, link by link -/
/-- what stands: FAR, or the cost of some walk; those of k links at most are there already -/
def bf_I (W : Nat → Nat → Nat → Prop) (S : Nat → Prop) (s k : Nat) (b : Nat → Nat) : Prop := b s = 0 ∧ (∀ v, v < 8 → b v = 1000000 ∨ (b v < 1000000 ∧ ∃ n, wk W S s n v (b v))) ∧ ∀ n v c, n ≤ k → wk W S s n v c → (∀ n c', wk W S s n v c' → c ≤ c') → b v ≤ c
/-- at the end -/
def bf_E (W : Nat → Nat → Nat → Prop) (S : Nat → Prop) (s v r : Nat) : Prop := (∃ c, om W S s v c ∧ r = c) ∨ ((∀ c, ¬ om W S s v c) ∧ r = 1000000)
theorem bf_end (hW : wW W) (hS8 : ∀ p, S p → p < 8) {b : Nat → Nat} {k : Nat} (h : bf_I W S s k b) (hk : 7 ≤ k) {v : Nat} (hv : v < 8) : bf_E W S s v (b v) := by
  rcases h.2.1 v hv with e | ⟨e, n, hn⟩
  · by_cases hc : ∃ c, om W S s v c
    · exfalso
      obtain ⟨c, hc⟩ := hc
      obtain ⟨⟨n, n1, n2⟩, h7⟩ := om_7 hW hS8 hc
      have := h.2.2 n v c (by omega) n2 hc.2
      omega
    · exact Or.inr ⟨fun c hcc => hc ⟨c, hcc⟩, e⟩
  · obtain ⟨c, hc⟩ := om_ex hn
    obtain ⟨⟨m, m1, m2⟩, _⟩ := om_7 hW hS8 hc
    have h1 := h.2.2 m v c (by omega) m2 hc.2
    have h2 := hc.2 n _ hn
    exact Or.inl ⟨c, hc, by omega⟩
/-- nothing can be bettered: it is the end -/
theorem bf_stop (hW : wW W) (hS8 : ∀ p, S p → p < 8) {b : Nat → Nat} {k : Nat} (h : bf_I W S s k b) (hno : ∀ u v w, W u v w → S u → S v → b v ≤ b u + w) : bf_I W S s 9 b := by
  refine ⟨h.1, h.2.1, fun n v c _ hn _ => ?_⟩
  have key : ∀ n v c, wk W S s n v c → b v ≤ c := by
    intro n
    induction n with
    | zero => intro v c hc; rw [hc.1, hc.2.1, h.1]; omega
    | succ n ih =>
      rintro v c ⟨hS, u, c', w, h1, h2, h3⟩
      have := ih u c' h1
      have := hno u v w h2 (wk_S n u c' h1).1 hS
      omega
  exact key n v c hn
end V1
