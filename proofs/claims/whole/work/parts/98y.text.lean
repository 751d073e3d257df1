/-! ===== the text: counts of tokens, first posts, faults of lines (pure) ===== -/
section TG
variable {K : Nat → Nat} {W : Nat → List Nat} {w : List Nat} {q k j i n m N : Nat}
/-- how many of kind q ahead of k -/
def cNk (K : Nat → Nat) (q : Nat) : Nat → Nat
  | 0 => 0
  | k + 1 => if K k = q then cNk K q k + 1 else cNk K q k
/-- the i-th of kind q ahead of k -/
def nTk (K : Nat → Nat) (q : Nat) : Nat → Nat → Nat
  | 0, _ => 0
  | k + 1, i => if K k = q ∧ i = cNk K q k then k else nTk K q k i
theorem cNk_y (h : K k = q) : cNk K q (k + 1) = cNk K q k + 1 := if_pos h
theorem cNk_n (h : ¬ K k = q) : cNk K q (k + 1) = cNk K q k := if_neg h
theorem cNk_le (j : Nat) : ∀ k, j ≤ k → cNk K q j ≤ cNk K q k
  | 0, h => by rw [show j = 0 by omega]; exact Nat.le_refl _
  | k + 1, h => by
    by_cases e : j = k + 1
    · rw [e]; exact Nat.le_refl _
    · have ih := cNk_le j k (by omega)
      by_cases c : K k = q
      · rw [cNk_y c]; omega
      · rw [cNk_n c]; exact ih
theorem cNk_lt (hj : j < k) (hq : K j = q) : cNk K q j < cNk K q k := by
  have t := cNk_le (K := K) (q := q) (j + 1) k hj
  rw [cNk_y hq] at t
  omega
theorem cNk_inj (hj : K j = q) (hi : K i = q) (h : cNk K q j = cNk K q i) : j = i := by
  rcases Nat.lt_trichotomy j i with c | c | c
  · have t := cNk_lt c hj; omega
  · exact c
  · have t := cNk_lt c hi; omega
theorem nTk_ok : ∀ k i, i < cNk K q k → nTk K q k i < k ∧ K (nTk K q k i) = q ∧ cNk K q (nTk K q k i) = i
  | 0, i, h => absurd h (Nat.not_lt_zero _)
  | k + 1, i, h => by
    by_cases c : K k = q ∧ i = cNk K q k
    · rw [show nTk K q (k + 1) i = k from if_pos c]
      exact ⟨by omega, c.1, c.2.symm⟩
    · rw [show nTk K q (k + 1) i = nTk K q k i from if_neg c]
      have hi : i < cNk K q k := by
        by_cases d : K k = q
        · rw [cNk_y d] at h
          have nn : ¬ i = cNk K q k := fun e => c ⟨d, e⟩
          omega
        · rw [cNk_n d] at h
          exact h
      have t := nTk_ok k i hi
      exact ⟨by omega, t.2⟩
theorem nTk_at (hj : j < k) (hq : K j = q) : nTk K q k (cNk K q j) = j := by
  have t := nTk_ok (K := K) (q := q) k (cNk K q j) (cNk_lt hj hq)
  exact cNk_inj t.2.1 hq t.2.2
/-- the first line of 'post' with this name ahead of n, else n -/
def fsT (K : Nat → Nat) (W : Nat → List Nat) (w : List Nat) : Nat → Nat
  | 0 => 0
  | n + 1 => if fsT K W w n < n then fsT K W w n else if K n = 20 ∧ W (n + 1) = w then n else n + 1
theorem fsT_ok : ∀ n, fsT K W w n ≤ n ∧ (fsT K W w n < n → K (fsT K W w n) = 20 ∧ W (fsT K W w n + 1) = w) ∧ ∀ j, j < fsT K W w n → ¬ (K j = 20 ∧ W (j + 1) = w)
  | 0 => ⟨Nat.le_refl _, fun h => absurd h (Nat.not_lt_zero _), fun j h => absurd h (Nat.not_lt_zero _)⟩
  | n + 1 => by
    obtain ⟨a1, a2, a3⟩ := fsT_ok n
    by_cases c : fsT K W w n < n
    · have e : fsT K W w (n + 1) = fsT K W w n := if_pos c
      rw [e]
      exact ⟨by omega, fun _ => a2 c, a3⟩
    · have en : fsT K W w n = n := by omega
      rw [en] at a3
      by_cases d : K n = 20 ∧ W (n + 1) = w
      · have e : fsT K W w (n + 1) = n := by
          show (if fsT K W w n < n then _ else _) = _
          rw [if_neg c, if_pos d]
        rw [e]
        exact ⟨by omega, fun _ => d, a3⟩
      · have e : fsT K W w (n + 1) = n + 1 := by
          show (if fsT K W w n < n then _ else _) = _
          rw [if_neg c, if_neg d]
        rw [e]
        refine ⟨Nat.le_refl _, fun h => absurd h (by omega), fun j hj => ?_⟩
        by_cases ej : j = n
        · rw [ej]; exact d
        · exact a3 j (by omega)
theorem fsT_at (hj : j < n) (h : K j = 20 ∧ W (j + 1) = w) (hm : ∀ i, i < j → ¬ (K i = 20 ∧ W (i + 1) = w)) : fsT K W w n = j := by
  obtain ⟨a1, a2, a3⟩ := fsT_ok (K := K) (W := W) (w := w) n
  rcases Nat.lt_trichotomy (fsT K W w n) j with c | c | c
  · exact absurd (a2 (by omega)) (hm _ c)
  · exact c
  · exact absurd h (a3 j c)
theorem fsT_no (h : ∀ j, j < n → ¬ (K j = 20 ∧ W (j + 1) = w)) : fsT K W w n = n := by
  obtain ⟨a1, a2, a3⟩ := fsT_ok (K := K) (W := W) (w := w) n
  refine Classical.byContradiction fun z => ?_
  have c : fsT K W w n < n := by omega
  exact h _ c (a2 c)
/-- first posts alone -/
def Kfp (K : Nat → Nat) (W : Nat → List Nat) (j : Nat) : Nat := if K j = 20 ∧ fsT K W (W (j + 1)) j = j then 20 else 0
theorem Kfp_20 : Kfp K W j = 20 ↔ K j = 20 ∧ fsT K W (W (j + 1)) j = j := by
  unfold Kfp
  by_cases c : K j = 20 ∧ fsT K W (W (j + 1)) j = j
  · rw [if_pos c]
    exact ⟨fun _ => c, fun _ => rfl⟩
  · rw [if_neg c]
    exact ⟨fun z => by omega, fun z => absurd z c⟩
theorem fsT_f (h : fsT K W w n < n) : Kfp K W (fsT K W w n) = 20 := by
  obtain ⟨a1, a2, a3⟩ := fsT_ok (K := K) (W := W) (w := w) n
  refine Kfp_20.mpr ⟨(a2 h).1, ?_⟩
  rw [(a2 h).2]
  exact fsT_no a3
theorem Kfp_fs (hj : j < n) (h : Kfp K W j = 20) (hw : W (j + 1) = w) : fsT K W w n = j := by
  have h2 := Kfp_20.mp h
  rw [hw] at h2
  have t := (fsT_ok (K := K) (W := W) (w := w) j).2.2
  rw [h2.2] at t
  exact fsT_at hj ⟨h2.1, hw⟩ t
theorem Kfp_le : ∀ k, cNk (Kfp K W) 20 k ≤ cNk K 20 k
  | 0 => Nat.le_refl _
  | k + 1 => by
    have ih := Kfp_le k
    by_cases c : Kfp K W k = 20
    · rw [cNk_y c, cNk_y (Kfp_20.mp c).1]
      omega
    · rw [cNk_n c]
      by_cases d : K k = 20
      · rw [cNk_y d]; omega
      · rw [cNk_n d]; exact ih
/-- every post is a first one: the counts are the same -/
theorem Kfp_all : ∀ k, (∀ j, j < k → K j = 20 → Kfp K W j = 20) → cNk (Kfp K W) 20 k = cNk K 20 k
  | 0, _ => rfl
  | k + 1, h => by
    have ih := Kfp_all k (fun j hj => h j (by omega))
    by_cases d : K k = 20
    · rw [cNk_y d, cNk_y (h k (by omega) d), ih]
    · rw [cNk_n d, cNk_n (fun z => d (Kfp_20.mp z).1), ih]
/-- two lines of the same two -/
def prB (W : Nat → List Nat) (j k : Nat) : Bool := decide ((W (j + 1) = W (k + 1) ∧ W (j + 2) = W (k + 2)) ∨ (W (j + 1) = W (k + 2) ∧ W (j + 2) = W (k + 1)))
def lkB (K : Nat → Nat) (W : Nat → List Nat) (k : Nat) : Nat → Bool
  | 0 => false
  | n + 1 => lkB K W k n || decide (K n = 21 ∧ prB W n k = true)
theorem lkB_iff : ∀ n, lkB K W k n = true ↔ ∃ j, j < n ∧ K j = 21 ∧ prB W j k = true
  | 0 => ⟨fun h => (by cases h), fun ⟨j, h, _⟩ => absurd h (Nat.not_lt_zero _)⟩
  | n + 1 => by
    show (lkB K W k n || decide (K n = 21 ∧ prB W n k = true)) = true ↔ _
    rw [Bool.or_eq_true, lkB_iff n, decide_eq_true_eq]
    constructor
    · rintro (⟨j, j1, j2⟩ | h)
      · exact ⟨j, by omega, j2⟩
      · exact ⟨n, by omega, h⟩
    · rintro ⟨j, j1, j2⟩
      by_cases e : j = n
      · subst e
        exact Or.inr j2
      · exact Or.inl ⟨j, by omega, j2⟩
/-- the fault of the line at k: its number, its token -/
def lnF (K : Nat → Nat) (W : Nat → List Nat) (V : Nat → Nat) (N k : Nat) : Nat × Nat :=
  if K k = 20 then (if fsT K W (W (k + 1)) k < k then (3, k + 1) else (0, 0))
  else if K k = 22 ∨ K k = 23 then (if fsT K W (W (k + 1)) N < N then (0, 0) else (4, k + 1))
  else if K k = 21 ∨ K k = 24 then
    (if fsT K W (W (k + 1)) N < N then
      (if fsT K W (W (k + 2)) N < N then
        (if K k = 24 then (if W (k + 1) = W (k + 2) ∨ lkB K W k N = false then (5, k + 2) else (0, 0))
         else (if W (k + 1) = W (k + 2) ∨ lkB K W k k = true then (3, k + 2) else if 1 ≤ V (k + 3) ∧ V (k + 3) ≤ 99 then (0, 0) else (5, k + 3)))
       else (4, k + 2))
     else (4, k + 1))
  else (0, 0)
/-- the first fault of the lines ahead of k -/
def ffF (L : Nat → Nat × Nat) : Nat → Nat × Nat
  | 0 => (0, 0)
  | n + 1 => if (ffF L n).1 = 0 then L n else ffF L n
theorem ffF_0 {L : Nat → Nat × Nat} (h : (ffF L n).1 = 0) : ffF L (n + 1) = L n := if_pos h
theorem ffF_1 {L : Nat → Nat × Nat} (h : ¬ (ffF L n).1 = 0) : ffF L (n + 1) = ffF L n := if_neg h
theorem ffF_st {L : Nat → Nat × Nat} : ∀ m, n ≤ m → ¬ (ffF L n).1 = 0 → ffF L m = ffF L n
  | 0, h, _ => by rw [show n = 0 by omega]
  | m + 1, h, hz => by
    by_cases e : n = m + 1
    · rw [e]
    · have ih := ffF_st m (by omega) hz
      rw [ffF_1 (by rw [ih]; exact hz), ih]
theorem ffF_no {L : Nat → Nat × Nat} (h : (ffF L n).1 = 0) : ∀ k, k < n → (L k).1 = 0 := by
  intro k hk
  have a : (ffF L k).1 = 0 := Classical.byContradiction fun z => z (by rw [← ffF_st n (by omega) z]; exact h)
  have c : (ffF L (k + 1)).1 = 0 := Classical.byContradiction fun z => z (by rw [← ffF_st n (by omega) z]; exact h)
  rw [ffF_0 a] at c
  exact c
theorem ffF_ex {L : Nat → Nat × Nat} : ∀ n, ¬ (ffF L n).1 = 0 → ∃ k, k < n ∧ ffF L n = L k
  | 0, h => absurd rfl h
  | n + 1, h => by
    by_cases c : (ffF L n).1 = 0
    · exact ⟨n, by omega, ffF_0 c⟩
    · obtain ⟨k, k1, k2⟩ := ffF_ex n c
      exact ⟨k, by omega, by rw [ffF_1 c, k2]⟩
/-- a text whose lines are well made -/
def txK (K : Nat → Nat) (N : Nat) : Prop := N ≤ 400 ∧ (∀ k, k < N → K k = 20 ∨ K k = 22 ∨ K k = 23 → K (k + 1) = 1 ∧ k + 1 < N) ∧ (∀ k, k < N → K k = 21 → K (k + 1) = 1 ∧ K (k + 2) = 1 ∧ K (k + 3) = 2 ∧ k + 3 < N) ∧ (∀ k, k < N → K k = 24 → K (k + 1) = 1 ∧ K (k + 2) = 1 ∧ k + 2 < N) ∧ cNk K 20 N ≤ 8 ∧ cNk K 21 N ≤ 16 ∧ K N = 0
theorem lnF_c {V : Nat → Nat} (h : txK K N) (hk : k < N) (hz : ¬ (lnF K W V N k).1 = 0) : k < (lnF K W V N k).2 ∧ (lnF K W V N k).2 < N ∧ (∀ j, k < j → j ≤ (lnF K W V N k).2 → K j < 20) ∧ (lnF K W V N k).1 < 6 := by
  obtain ⟨h1, h2, h3, h4, h5, h6, h7⟩ := h
  unfold lnF at hz ⊢
  by_cases c20 : K k = 20
  · have t := h2 k hk (Or.inl c20)
    rw [if_pos c20] at hz ⊢
    by_cases d : fsT K W (W (k + 1)) k < k
    · rw [if_pos d] at hz ⊢
      exact ⟨by show k < k + 1; omega, t.2, fun j j1 j2 => by
        have j2 : j ≤ k + 1 := j2
        rw [show j = k + 1 by omega, t.1]
        decide, by show 3 < 6; decide⟩
    · rw [if_neg d] at hz
      exact absurd rfl hz
  rw [if_neg c20] at hz ⊢
  by_cases c22 : K k = 22 ∨ K k = 23
  · have t := h2 k hk (Or.inr c22)
    rw [if_pos c22] at hz ⊢
    by_cases d : fsT K W (W (k + 1)) N < N
    · rw [if_pos d] at hz
      exact absurd rfl hz
    · rw [if_neg d] at hz ⊢
      exact ⟨by show k < k + 1; omega, t.2, fun j j1 j2 => by
        have j2 : j ≤ k + 1 := j2
        rw [show j = k + 1 by omega, t.1]
        decide, by show 4 < 6; decide⟩
  rw [if_neg c22] at hz ⊢
  by_cases c21 : K k = 21 ∨ K k = 24
  · have t : K (k + 1) = 1 ∧ K (k + 2) = 1 ∧ k + 2 < N := by
      rcases c21 with c | c
      · have t := h3 k hk c
        exact ⟨t.1, t.2.1, by omega⟩
      · exact h4 k hk c
    have two : ∀ j, k < j → j ≤ k + 2 → K j < 20 := fun j j1 j2 => by
      by_cases e : j = k + 1
      · rw [e, t.1]; decide
      · rw [show j = k + 2 by omega, t.2.1]; decide
    rw [if_pos c21] at hz ⊢
    by_cases d1 : fsT K W (W (k + 1)) N < N
    · rw [if_pos d1] at hz ⊢
      by_cases d2 : fsT K W (W (k + 2)) N < N
      · rw [if_pos d2] at hz ⊢
        by_cases c24 : K k = 24
        · rw [if_pos c24] at hz ⊢
          by_cases d3 : W (k + 1) = W (k + 2) ∨ lkB K W k N = false
          · rw [if_pos d3] at hz ⊢
            exact ⟨by show k < k + 2; omega, t.2.2, two, by show 5 < 6; decide⟩
          · rw [if_neg d3] at hz
            exact absurd rfl hz
        · have t3 := h3 k hk (c21.resolve_right c24)
          rw [if_neg c24] at hz ⊢
          by_cases d3 : W (k + 1) = W (k + 2) ∨ lkB K W k k = true
          · rw [if_pos d3] at hz ⊢
            exact ⟨by show k < k + 2; omega, t.2.2, two, by show 3 < 6; decide⟩
          · rw [if_neg d3] at hz ⊢
            by_cases d4 : 1 ≤ V (k + 3) ∧ V (k + 3) ≤ 99
            · rw [if_pos d4] at hz
              exact absurd rfl hz
            · rw [if_neg d4] at hz ⊢
              exact ⟨by show k < k + 3; omega, t3.2.2.2, fun j j1 j2 => by
                have j2 : j ≤ k + 3 := j2
                by_cases e : j ≤ k + 2
                · exact two j j1 e
                · rw [show j = k + 3 by omega, t3.2.2.1]; decide, by show 5 < 6; decide⟩
      · rw [if_neg d2] at hz ⊢
        exact ⟨by show k < k + 2; omega, t.2.2, two, by show 4 < 6; decide⟩
    · rw [if_neg d1] at hz ⊢
      exact ⟨by show k < k + 1; omega, by show k + 1 < N; omega, fun j j1 j2 => by
        have j2 : j ≤ k + 1 := j2
        exact two j j1 (by omega), by show 4 < 6; decide⟩
  · rw [if_neg c21] at hz
    exact absurd rfl hz
/-- an earlier fault lies ahead of the next line -/
theorem ffF_c {V : Nat → Nat} (h : txK K N) (hk : k ≤ N) (hz : ¬ (ffF (lnF K W V N) k).1 = 0) : (ffF (lnF K W V N) k).2 < N ∧ (ffF (lnF K W V N) k).1 < 6 ∧ (20 ≤ K k → (ffF (lnF K W V N) k).2 < k) := by
  obtain ⟨j, j1, j2⟩ := ffF_ex k hz
  rw [j2] at hz ⊢
  have t := lnF_c h (show j < N by omega) hz
  refine ⟨t.2.1, t.2.2.2, fun h20 => ?_⟩
  refine Classical.byContradiction fun z => ?_
  have := t.2.2.1 k j1 (by omega)
  omega
end TG
