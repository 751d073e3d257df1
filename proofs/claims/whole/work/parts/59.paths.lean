/-! ===== ways over just these posts ===== -/
section V3
variable {W : Nat → Nat → Nat → Prop} {S T : Nat → Prop} {s d : Nat}
/-- a way from s over just the posts of T, no one twice, the last of them p, of cost c -/
def pw (W : Nat → Nat → Nat → Prop) (s : Nat) (T : Nat → Prop) (p c : Nat) : Prop := ∃ (n : Nat) (f g : Nat → Nat), 0 < n ∧ f 0 = s ∧ f n = p ∧ g 0 = 0 ∧ g n = c ∧ (∀ j, j < n → ∃ w, W (f j) (f (j + 1)) w ∧ g (j + 1) = g j + w) ∧ (∀ i j, 0 < i → i ≤ n → 0 < j → j ≤ n → f i = f j → i = j) ∧ ∀ q, T q ↔ ∃ j, 0 < j ∧ j ≤ n ∧ f j = q
theorem pw_rec {p c : Nat} : pw W s T p c ↔ T p ∧ (((∀ q, T q ↔ q = p) ∧ W s p c) ∨ ∃ q c' w, pw W s (fun r => T r ∧ r ≠ p) q c' ∧ W q p w ∧ c = c' + w) := by
  constructor
  · rintro ⟨n, f, g, h1, h2, h3, h4, h5, h6, h7, h8⟩
    refine ⟨(h8 p).mpr ⟨n, h1, Nat.le_refl _, h3⟩, ?_⟩
    cases n with
    | zero => omega
    | succ n =>
      cases n with
      | zero =>
        refine Or.inl ⟨fun q => ?_, ?_⟩
        · rw [h8 q]
          constructor
          · rintro ⟨j, j1, j2, j3⟩
            rw [← j3, show j = 1 by omega]; exact h3
          · intro e
            exact ⟨1, by omega, by omega, by rw [e]; exact h3⟩
        · obtain ⟨w, w1, w2⟩ := h6 0 (by omega)
          rw [h2, show 0 + 1 = 1 from rfl, h3] at w1
          have : w = c := by
            rw [show 0 + 1 = 1 from rfl, h4] at w2
            have h5' : g 1 = c := h5
            omega
          rw [← this]; exact w1
      | succ n =>
        obtain ⟨w, w1, w2⟩ := h6 (n + 1) (by omega)
        refine Or.inr ⟨f (n + 1), g (n + 1), w, ⟨n + 1, f, g, by omega, h2, rfl, h4, rfl, fun j hj => h6 j (by omega), fun i j a1 a2 a3 a4 => h7 i j a1 (by omega) a3 (by omega), fun q => ?_⟩, ?_, ?_⟩
        · show (T q ∧ q ≠ p) ↔ _
          rw [h8 q]
          constructor
          · rintro ⟨⟨j, j1, j2, j3⟩, j4⟩
            refine ⟨j, j1, ?_, j3⟩
            have : j ≠ n + 1 + 1 := fun e => j4 (by rw [← j3, e]; exact h3)
            omega
          · rintro ⟨j, j1, j2, j3⟩
            refine ⟨⟨j, j1, by omega, j3⟩, fun e => ?_⟩
            have := h7 j (n + 1 + 1) j1 (by omega) (by omega) (Nat.le_refl _) (by rw [j3, e]; exact h3.symm)
            omega
        · rw [h3] at w1; exact w1
        · rw [← h5]; exact w2
  · rintro ⟨hp, ⟨h1, h2⟩ | ⟨q, c', w, ⟨n, f, g, k1, k2, k3, k4, k5, k6, k7, k8⟩, h2, h3⟩⟩
    · refine ⟨1, fun j => if j = 0 then s else p, fun j => if j = 0 then 0 else c, by omega, if_pos rfl, if_neg (by decide), if_pos rfl, if_neg (by decide), fun j hj => ?_, fun i j a1 a2 a3 a4 _ => by omega, fun q => ?_⟩
      · have : j = 0 := by omega
        subst this
        refine ⟨c, ?_, ?_⟩
        · show W (if 0 = 0 then s else p) (if 0 + 1 = 0 then s else p) c
          rw [if_pos rfl, if_neg (by decide)]; exact h2
        · show (if 0 + 1 = 0 then 0 else c) = (if 0 = 0 then 0 else c) + c
          rw [if_neg (by decide), if_pos rfl]; omega
      · rw [h1 q]
        constructor
        · intro e
          exact ⟨1, by omega, by omega, by show (if 1 = 0 then s else p) = q; rw [if_neg (by decide)]; exact e.symm⟩
        · rintro ⟨j, j1, j2, j3⟩
          have : (if j = 0 then s else p) = q := j3
          rw [if_neg (by omega)] at this
          exact this.symm
    · refine ⟨n + 1, fun j => if j = n + 1 then p else f j, fun j => if j = n + 1 then c else g j, by omega, ?_, if_pos rfl, ?_, if_pos rfl, fun j hj => ?_, fun i j a1 a2 a3 a4 e => ?_, fun r => ?_⟩
      · show (if 0 = n + 1 then p else f 0) = s
        rw [if_neg (by omega)]; exact k2
      · show (if 0 = n + 1 then c else g 0) = 0
        rw [if_neg (by omega)]; exact k4
      · show ∃ w, W (if j = n + 1 then p else f j) (if j + 1 = n + 1 then p else f (j + 1)) w ∧ (if j + 1 = n + 1 then c else g (j + 1)) = (if j = n + 1 then c else g j) + w
        rw [if_neg (show ¬ j = n + 1 by omega), if_neg (show ¬ j = n + 1 by omega)]
        by_cases e : j = n
        · rw [if_pos (show j + 1 = n + 1 by omega), if_pos (show j + 1 = n + 1 by omega), e, k3, k5]
          exact ⟨w, h2, h3⟩
        · rw [if_neg (show ¬ j + 1 = n + 1 by omega), if_neg (show ¬ j + 1 = n + 1 by omega)]
          exact k6 j (by omega)
      · have e' : (if i = n + 1 then p else f i) = (if j = n + 1 then p else f j) := e
        have notp : ∀ i, 0 < i → i ≤ n → f i ≠ p := fun i b1 b2 b3 => ((k8 p).mpr ⟨i, b1, b2, b3⟩).2 rfl
        by_cases ci : i = n + 1
        · by_cases cj : j = n + 1
          · omega
          · rw [if_pos ci, if_neg cj] at e'
            exact absurd e'.symm (notp j a3 (by omega))
        · by_cases cj : j = n + 1
          · rw [if_neg ci, if_pos cj] at e'
            exact absurd e' (notp i a1 (by omega))
          · rw [if_neg ci, if_neg cj] at e'
            exact k7 i j a1 (by omega) a3 (by omega) e'
      · constructor
        · intro hr
          by_cases e : r = p
          · exact ⟨n + 1, by omega, Nat.le_refl _, by show (if n + 1 = n + 1 then p else f (n + 1)) = r; rw [if_pos rfl]; exact e.symm⟩
          · obtain ⟨j, j1, j2, j3⟩ := (k8 r).mp ⟨hr, e⟩
            exact ⟨j, j1, by omega, by show (if j = n + 1 then p else f j) = r; rw [if_neg (by omega)]; exact j3⟩
        · rintro ⟨j, j1, j2, j3⟩
          have j3' : (if j = n + 1 then p else f j) = r := j3
          by_cases e : j = n + 1
          · rw [if_pos e] at j3'
            rw [← j3']; exact hp
          · rw [if_neg e] at j3'
            exact ((k8 r).mpr ⟨j, j1, by omega, j3'⟩).1
theorem pw_lt (hW : wW W) {p c : Nat} (h : pw W s T p c) : c < 1000 := by
  obtain ⟨n, f, g, h1, h2, h3, h4, h5, h6, h7, h8⟩ := h
  have h8' : n ≤ 8 := by
    have := g_n_php n (fun j u => f (j + 1) = u) (fun a b u ha hb e1 e2 => by have := h7 (a + 1) (b + 1) (by omega) (by omega) (by omega) (by omega) (e1.trans e2.symm); omega) 8 (fun j => j < n) (fun j hj _ => by
      obtain ⟨w, w1, _⟩ := h6 j hj
      exact ⟨f (j + 1), (hW.1 _ _ _ w1).2.2.2.2.1, rfl⟩)
    rw [g_n_below n (Nat.le_refl _)] at this
    exact this
  have key : ∀ j, j ≤ n → g j ≤ 99 * j := by
    intro j
    induction j with
    | zero => intro _; omega
    | succ j ih =>
      intro hj
      obtain ⟨w, w1, w2⟩ := h6 j (by omega)
      have := (hW.1 _ _ _ w1).2.2.1
      have := ih (by omega)
      omega
  have := key n (Nat.le_refl _)
  omega
/-- a least cost, or FAR -/
def mr (P : Nat → Prop) (r : Nat) : Prop := (P r ∧ ∀ c, P c → r ≤ c) ∨ ((∀ c, ¬ P c) ∧ r = 1000000)
theorem mr_un {P : Nat → Prop} {r r' : Nat} (h : mr P r) (h' : mr P r') : r = r' := by
  rcases h with ⟨a1, a2⟩ | ⟨a1, a2⟩
  · rcases h' with ⟨b1, b2⟩ | ⟨b1, _⟩
    · exact Nat.le_antisymm (a2 r' b1) (b2 r a1)
    · exact absurd a1 (b1 r)
  · rcases h' with ⟨b1, b2⟩ | ⟨b1, b2⟩
    · exact absurd b1 (a1 r')
    · rw [a2, b2]
theorem mr_cong {P Q : Nat → Prop} {r : Nat} (h : ∀ c, P c ↔ Q c) : mr P r ↔ mr Q r := by
  rw [show P = Q from funext fun c => propext (h c)]
/-- a way from s to d with just the posts of T between -/
def pv (W : Nat → Nat → Nat → Prop) (s d : Nat) (T : Nat → Prop) (c : Nat) : Prop := ((∀ q, ¬ T q) ∧ W s d c) ∨ ∃ p c' w, pw W s T p c' ∧ W p d w ∧ c = c' + w
theorem pv_lt (hW : wW W) {c : Nat} (h : pv W s d T c) : c < 2000 := by
  rcases h with ⟨_, h⟩ | ⟨p, c', w, h1, h2, h3⟩
  · have := (hW.1 _ _ _ h).2.2.1; omega
  · have := pw_lt hW h1
    have := (hW.1 _ _ _ h2).2.2.1
    omega
/-- such a way is a walk -/
theorem pv_wk (hW : wW W) (hs : S s) (hd : S d) (hT : ∀ q, T q → S q) {c : Nat} (h : pv W s d T c) : ∃ n, wk W S s n d c := by
  rcases h with ⟨_, h⟩ | ⟨p, c', w, ⟨n, f, g, h1, h2, h3, h4, h5, h6, h7, h8⟩, k2, k3⟩
  · exact ⟨1, hd, s, 0, c, ⟨rfl, rfl, hs⟩, h, by omega⟩
  · have key : ∀ j, j ≤ n → wk W S s j (f j) (g j) := by
      intro j
      induction j with
      | zero => intro _; exact ⟨h2, h4, hs⟩
      | succ j ih =>
        intro hj
        obtain ⟨w, w1, w2⟩ := h6 j (by omega)
        exact ⟨hT _ ((h8 _).mpr ⟨j + 1, by omega, hj, rfl⟩), f j, g j, w, ih (by omega), w1, w2⟩
    have := key n (Nat.le_refl _)
    rw [h3, h5] at this
    exact ⟨n + 1, hd, p, c', w, this, k2, k3⟩
/-- and a least walk is such a way -/
theorem om_pv (hW : wW W) (hsd : s ≠ d) {c : Nat} (h : om W S s d c) : ∃ T : Nat → Prop, (∀ q, T q → S q ∧ q ≠ s ∧ q ≠ d) ∧ pv W s d T c := by
  obtain ⟨⟨n, hn⟩, hm⟩ := h
  obtain ⟨f, g, f1, f2, f3, f0, f4, f5⟩ := om_chain hW n d c hn hm
  have inj := fun (i j : Nat) (hi : i ≤ n) (hj : j ≤ n) (e : f i = f j) => ch_inj hW f4 f5 hi hj e
  cases n with
  | zero => exact absurd (f1.symm.trans f2) hsd
  | succ n =>
    obtain ⟨w, w1, w2⟩ := f5 n (by omega)
    refine ⟨fun q => ∃ j, 0 < j ∧ j ≤ n ∧ f j = q, ?_, ?_⟩
    · rintro q ⟨j, j1, j2, j3⟩
      refine ⟨by rw [← j3]; exact (f4 j (by omega)).2, fun e => ?_, fun e => ?_⟩
      · have := inj j 0 (by omega) (by omega) (by rw [j3, e, f1]); omega
      · have := inj j (n + 1) (by omega) (by omega) (by rw [j3, e, f2]); omega
    · rw [f2, f3] at *
      cases n with
      | zero =>
        refine Or.inl ⟨fun q ⟨j, j1, j2, _⟩ => by omega, ?_⟩
        rw [f1] at w1
        have : c = w := by omega
        rw [this]; exact w1
      | succ n =>
        refine Or.inr ⟨f (n + 1), g (n + 1), w, ⟨n + 1, f, g, by omega, f1, rfl, f0, rfl, fun j hj => f5 j (by omega), fun i j a1 a2 a3 a4 e => inj i j (by omega) (by omega) e, fun q => Iff.rfl⟩, w1, w2⟩
/-- CHEAP by sets of posts between is CHEAP by walks -/
theorem cheap_eq (hW : wW W) (hsd : s ≠ d) (hs : S s) (hd : S d) {r : Nat} : mr (fun c => ∃ T : Nat → Prop, (∀ q, T q → S q ∧ q ≠ s ∧ q ≠ d) ∧ pv W s d T c) r ↔ bf_E W S s d r := by
  constructor
  · rintro (⟨⟨T, t1, t2⟩, h2⟩ | ⟨h1, h2⟩)
    · obtain ⟨n, hn⟩ := pv_wk hW hs hd (fun q hq => (t1 q hq).1) t2
      obtain ⟨c, hc⟩ := om_ex hn
      have e1 := hc.2 n r hn
      obtain ⟨T', t1', t2'⟩ := om_pv hW hsd hc
      have e2 := h2 c ⟨T', t1', t2'⟩
      exact Or.inl ⟨c, hc, by omega⟩
    · exact Or.inr ⟨fun c hc => by
        obtain ⟨T', t1', t2'⟩ := om_pv hW hsd hc
        exact h1 c ⟨T', t1', t2'⟩, h2⟩
  · rintro (⟨c, hc, rfl⟩ | ⟨h1, h2⟩)
    · refine Or.inl ⟨om_pv hW hsd hc, ?_⟩
      rintro c' ⟨T, t1, t2⟩
      obtain ⟨n, hn⟩ := pv_wk hW hs hd (fun q hq => (t1 q hq).1) t2
      exact hc.2 n c' hn
    · refine Or.inr ⟨?_, h2⟩
      rintro c' ⟨T, t1, t2⟩
      obtain ⟨n, hn⟩ := pv_wk hW hs hd (fun q hq => (t1 q hq).1) t2
      obtain ⟨c, hc⟩ := om_ex hn
      exact h1 c hc
end V3
