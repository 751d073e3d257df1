/-! ===== the search by depth: what it does ===== -/
section D1
variable {A : Nat → Nat → Prop} {V : Nat → Prop}
def nz (n : Nat) : Int32 := if n = 99 then -1 else nI n
def pz (n : Nat) : Int32 := if n = 99 then -1 else if n = 98 then -2 else nI n
def up (f : Nat → Nat) (t v : Nat) : Nat → Nat := fun p => if p = t then v else f p
theorem up_eq (f : Nat → Nat) (t v : Nat) : up f t v t = v := by unfold up; rw [if_pos rfl]
theorem up_ne {f : Nat → Nat} {t v p : Nat} (h : p ≠ t) : up f t v p = f p := by unfold up; rw [if_neg h]
theorem nz_ok {n : Nat} (h : n ≠ 99) : nz n = nI n := by unfold nz; rw [if_neg h]
theorem nz_99 : nz 99 = -1 := by unfold nz; rw [if_pos rfl]
theorem pz_98 : pz 98 = -2 := by unfold pz; rw [if_neg (by decide), if_pos rfl]
theorem pz_99 : pz 99 = -1 := by unfold pz; rw [if_pos rfl]
theorem pz_ok {n : Nat} (h : n < 98) : pz n = nI n := by unfold pz; rw [if_neg (by omega), if_neg (by omega)]
theorem nI_m2 {m : Nat} (h : m < 2 ^ 31) : nI m ≠ -2 := fun e => by
  have := nI_pos h
  rw [e] at this
  exact this (by decide)
theorem pz_eq {p n : Nat} (hp : p < 8) (hn : n < 2 ^ 31) : nI p = pz n ↔ p = n := by
  unfold pz
  by_cases c1 : n = 99
  · rw [if_pos c1]
    exact ⟨fun z => absurd z (nI_m1 (by omega)), fun z => by omega⟩
  · rw [if_neg c1]
    by_cases c2 : n = 98
    · rw [if_pos c2]
      exact ⟨fun z => absurd z (nI_m2 (by omega)), fun z => by omega⟩
    · rw [if_neg c2]
      exact nI_eq (by omega) hn
/-- t is the lowest post with a link to a that isn't met -/
def ln (A : Nat → Nat → Prop) (nu : Nat → Nat) (a t : Nat) : Prop := A a t ∧ nu t = 99 ∧ ∀ q, q < t → A a q → nu q ≠ 99
theorem ln_un {nu : Nat → Nat} {a t t' : Nat} (h : ln A nu a t) (h' : ln A nu a t') : t = t' := by
  rcases Nat.lt_trichotomy t t' with e | e | e
  · exact absurd h.2.1 (h'.2.2 t e h.1)
  · exact e
  · exact absurd h'.2.1 (h.2.2 t' e h'.1)
theorem ln_ex {nu : Nat → Nat} {a : Nat} : (∃ t, ln A nu a t) ∨ ∀ q, A a q → nu q ≠ 99 := by
  by_cases h : ∃ t, A a t ∧ nu t = 99
  · obtain ⟨t, ht⟩ := h
    obtain ⟨q, q1, q2⟩ := g_min (P := fun t => A a t ∧ nu t = 99) ht
    exact Or.inl ⟨q, q1.1, q1.2, fun p hp hA hn => q2 p hp ⟨hA, hn⟩⟩
  · exact Or.inr fun q hA hn => h ⟨q, hA, hn⟩
/-- the run of a search: the posts that it stands on, how many are met, numbers, parents -/
def ds (A : Nat → Nat → Prop) : Nat → List Nat → Nat → (Nat → Nat) → (Nat → Nat) → (Nat → Nat) × (Nat → Nat) × Nat → Prop
  | 0, _, _, _, _, _ => False
  | _ + 1, [], k, nu, pa, R => R = (nu, pa, k)
  | n + 1, a :: s, k, nu, pa, R => (∃ t, ln A nu a t ∧ ds A n (t :: a :: s) (k + 1) (up nu t k) (up pa t a) R) ∨ ((∀ q, A a q → nu q ≠ 99) ∧ ds A n s k nu pa R)
theorem ds_un : ∀ n st k nu pa R R', ds A n st k nu pa R → ds A n st k nu pa R' → R = R'
  | 0, _, _, _, _, _, _, h, _ => h.elim
  | n + 1, [], k, nu, pa, R, R', h, h' => Eq.trans h (Eq.symm h')
  | n + 1, a :: s, k, nu, pa, R, R', h, h' => by
    rcases h with ⟨t, h1, h2⟩ | ⟨h1, h2⟩
    · rcases h' with ⟨t', k1, k2⟩ | ⟨k1, k2⟩
      · have e := ln_un k1 h1
        subst e
        exact ds_un n _ _ _ _ _ _ h2 k2
      · exact absurd h1.2.1 (k1 t h1.1)
    · rcases h' with ⟨t', k1, k2⟩ | ⟨k1, k2⟩
      · exact absurd k1.2.1 (h1 t' k1.1)
      · exact ds_un n _ _ _ _ _ _ h2 k2
/-- each stands on its parent -/
def ch (pa : Nat → Nat) : List Nat → Prop
  | [] => True
  | [a] => pa a = 98
  | a :: b :: s => pa a = b ∧ ch pa (b :: s)
/-- where it goes back to -/
def bk (s : List Nat) : Nat := match s with
  | [] => 98
  | b :: _ => b
theorem ch_cons {pa : Nat → Nat} {a : Nat} {s : List Nat} : ch pa (a :: s) ↔ pa a = bk s ∧ ch pa s := by
  cases s with
  | nil => exact ⟨fun h => ⟨h, trivial⟩, fun h => h.1⟩
  | cons b s => exact Iff.rfl
theorem ch_up {pa : Nat → Nat} {t v : Nat} : ∀ s : List Nat, (∀ p, p ∈ s → p ≠ t) → ch pa s → ch (up pa t v) s
  | [], _, _ => trivial
  | a :: s, h, k => by
    rw [ch_cons] at k ⊢
    refine ⟨?_, ch_up s (fun p hp => h p (List.mem_cons_of_mem _ hp)) k.2⟩
    rw [up_ne (h a (List.mem_cons_self ..))]
    exact k.1
/-- what holds as it goes -/
def DI (A : Nat → Nat → Prop) (V : Nat → Prop) (r : Nat) (st : List Nat) (k : Nat) (nu pa : Nat → Nat) : Prop :=
  st.Nodup ∧ ch pa st ∧ (∀ p, p ∈ st → nu p ≠ 99) ∧ (∀ p, nu p ≠ 99 → nu p < k ∧ g_C A V r p) ∧ (∀ p q, nu p ≠ 99 → nu p = nu q → p = q) ∧ (∀ j, j < k → ∃ p, nu p = j) ∧
  (∀ p, nu p ≠ 99 → ¬ p ∈ st → ∀ q, A p q → nu q ≠ 99) ∧ (∀ p, nu p ≠ 99 → p ≠ r → nu (pa p) < nu p ∧ pa p < 8) ∧ pa r = 98 ∧ nu r = 0 ∧ 0 < k ∧ ∀ p, nu p = 99 → pa p = 99
theorem DI_k (hN : g_N A V) {r k : Nat} {st : List Nat} {nu pa : Nat → Nat} (h : DI A V r st k nu pa) : k ≤ 8 := by
  have := g_n_php k (fun j p => nu p = j) (fun a b p _ _ h1 h2 => h1.symm.trans h2) 8 (fun j => j < k) (fun j hj _ => by
    obtain ⟨p, hp⟩ := h.2.2.2.2.2.1 j hj
    refine Classical.byContradiction fun hc => ?_
    by_cases e : nu p = 99
    · by_cases hk : k ≤ 99
      · omega
      · have : ∀ i, i < 99 → ∃ q, q < 8 ∧ nu q = i := fun i hi => by
          obtain ⟨q, hq⟩ := h.2.2.2.2.2.1 i (by omega)
          exact ⟨q, hN.2.2 q (g_in (h.2.2.2.1 q (by omega)).2), hq⟩
        have h2 := g_n_php 99 (fun i q => nu q = i) (fun a b p _ _ h1 h2 => h1.symm.trans h2) 8 (fun i => i < 99) (fun i hi _ => this i hi)
        rw [g_n_below 99 (Nat.le_refl _)] at h2
        omega
    · exact hc ⟨p, hN.2.2 p (g_in (h.2.2.2.1 p e).2), hp⟩)
  rw [g_n_below k (Nat.le_refl _)] at this
  exact this
theorem DI_lt (hN : g_N A V) {r k p : Nat} {st : List Nat} {nu pa : Nat → Nat} (h : DI A V r st k nu pa) (hp : nu p ≠ 99) : p < 8 ∧ nu p < 8 := by
  have := DI_k hN h
  have := h.2.2.2.1 p hp
  exact ⟨hN.2.2 p (g_in this.2), by omega⟩
theorem DI_0 {r : Nat} (hr : V r) : DI A V r [r] 1 (fun p => if p = r then 0 else 99) (fun p => if p = r then 98 else 99) := by
  have e : ∀ p, (fun p => if p = r then 0 else 99) p ≠ 99 → p = r := fun p hp => Classical.byContradiction fun hc => hp (by show (if p = r then 0 else 99) = 99; rw [if_neg hc])
  have e2 : (if r = r then 0 else 99) = 0 := if_pos rfl
  refine ⟨List.nodup_cons.mpr ⟨by simp, List.nodup_nil⟩, if_pos rfl, fun p hp => ?_, fun p hp => ?_, fun p q hp hq => ?_, fun j hj => ⟨r, ?_⟩, fun p hp hs => ?_, fun p hp hne => absurd (e p hp) hne, if_pos rfl, e2, by omega, fun p hp => ?_⟩
  · rw [List.mem_singleton.mp hp]
    show (if r = r then 0 else 99) ≠ 99
    rw [e2]; decide
  · rw [e p hp]
    exact ⟨by show (if r = r then 0 else 99) < 1; rw [e2]; omega, g_rf hr⟩
  · rw [e p hp, e q (by rw [← hq]; exact hp)]
  · show (if r = r then 0 else 99) = j
    rw [e2]; omega
  · exact absurd (List.mem_singleton.mpr (e p hp)) hs
  · show (if p = r then 98 else 99) = 99
    refine if_neg (fun z => ?_)
    have hp' : (if p = r then 0 else 99) = 99 := hp
    rw [if_pos z] at hp'
    omega
theorem DI_push (hN : g_N A V) {r a t k : Nat} {s : List Nat} {nu pa : Nat → Nat} (h : DI A V r (a :: s) k nu pa) (ht : ln A nu a t) : DI A V r (t :: a :: s) (k + 1) (up nu t k) (up pa t a) := by
  have hk := DI_k hN h
  obtain ⟨h1, h2, h3, h4, h5, h6, h7, h8, h9, h10, h11, h12⟩ := h
  have hat : nu a ≠ 99 := h3 a (List.mem_cons_self ..)
  have hnt : ∀ p, nu p ≠ 99 → p ≠ t := fun p hp e => hp (e ▸ ht.2.1)
  have ha8 : a < 8 := hN.2.2 a (hN.2.1 _ _ ht.1).1
  have key : ∀ p, up nu t k p ≠ 99 → p = t ∨ (p ≠ t ∧ nu p ≠ 99) := fun p hp => by
    by_cases e : p = t
    · exact Or.inl e
    · rw [up_ne e] at hp; exact Or.inr ⟨e, hp⟩
  have hks : ∀ q, nu q ≠ 99 → up nu t k q ≠ 99 := fun q hq => by rw [up_ne (hnt q hq)]; exact hq
  refine ⟨List.nodup_cons.mpr ⟨fun z => hnt t (h3 t z) rfl, h1⟩, ?_, fun p hp => ?_, fun p hp => ?_, fun p q hp hq => ?_, fun j hj => ?_, fun p hp hs => ?_, fun p hp hne => ?_, ?_, ?_, by omega, fun p hp => ?_⟩
  · rw [ch_cons]
    exact ⟨up_eq _ _ _, ch_up _ (fun p hp => hnt p (h3 p hp)) h2⟩
  · rcases List.mem_cons.mp hp with e | e
    · rw [e, up_eq]; omega
    · exact hks p (h3 p e)
  · rcases key p hp with e | ⟨e, e2⟩
    · rw [e, up_eq]
      exact ⟨by omega, g_st (h4 a hat).2 ht.1 (hN.2.1 _ _ ht.1).2.1⟩
    · rw [up_ne e]
      have := h4 p e2
      exact ⟨by omega, this.2⟩
  · rcases key p hp with e | ⟨e, e2⟩
    · by_cases eq : q = t
      · rw [e, eq]
      · rw [e, up_eq, up_ne eq] at hq
        have := h4 q (by omega)
        omega
    · by_cases eq : q = t
      · rw [eq, up_eq, up_ne e] at hq
        have := h4 p e2
        omega
      · rw [up_ne e, up_ne eq] at hq
        exact h5 p q e2 hq
  · by_cases e : j = k
    · exact ⟨t, by rw [up_eq, e]⟩
    · obtain ⟨p, hp⟩ := h6 j (by omega)
      exact ⟨p, by rw [up_ne (hnt p (by omega))]; exact hp⟩
  · rcases key p hp with e | ⟨e, e2⟩
    · exact absurd (List.mem_cons.mpr (Or.inl e)) hs
    · intro q hq
      exact hks q (h7 p e2 (fun z => hs (List.mem_cons_of_mem _ z)) q hq)
  · rcases key p hp with e | ⟨e, e2⟩
    · rw [e, up_eq, up_eq, up_ne (hnt a hat)]
      exact ⟨(h4 a hat).1, ha8⟩
    · have := h8 p e2 hne
      rw [up_ne e, up_ne e, up_ne (hnt _ (fun z => by have := h4 p e2; omega))]
      exact this
  · rw [up_ne (Ne.symm (fun e => hnt r (by omega) e.symm))]; exact h9
  · rw [up_ne (Ne.symm (fun e => hnt r (by omega) e.symm))]; exact h10
  · by_cases e : p = t
    · rw [e, up_eq] at hp; omega
    · rw [up_ne e] at hp ⊢; exact h12 p hp
theorem DI_pop {r a k : Nat} {s : List Nat} {nu pa : Nat → Nat} (h : DI A V r (a :: s) k nu pa) (ha : ∀ q, A a q → nu q ≠ 99) : DI A V r s k nu pa := by
  obtain ⟨h1, h2, h3, h4, h5, h6, h7, h8⟩ := h
  refine ⟨(List.nodup_cons.mp h1).2, (ch_cons.mp h2).2, fun p hp => h3 p (List.mem_cons_of_mem _ hp), h4, h5, h6, fun p hp hs q hq => ?_, h8⟩
  by_cases e : p = a
  · rw [e] at hq; exact ha q hq
  · exact h7 p hp (fun z => (List.mem_cons.mp z).elim e hs) q hq
/-- at the end just the piece of r is met -/
theorem DI_end {r k : Nat} {nu pa : Nat → Nat} (h : DI A V r [] k nu pa) (p : Nat) : nu p ≠ 99 ↔ g_C A V r p := by
  refine ⟨fun hp => (h.2.2.2.1 p hp).2, fun hp => ?_⟩
  have h0 : nu r = 0 := h.2.2.2.2.2.2.2.2.2.1
  exact g_ind (P := fun p => nu p ≠ 99) hp (by omega) (fun c d _ hc e _ => h.2.2.2.2.2.2.1 c hc (by simp) d e)
/-- LOW of v -/
def lw (A : Nat → Nat → Prop) (nu pa lo : Nat → Nat) (v : Nat) : Prop := (lo v = nu v ∨ ∃ p, A v p ∧ p ≠ pa v ∧ (lo v = nu p ∨ (pa p = v ∧ lo v = lo p))) ∧ lo v ≤ nu v ∧ ∀ p, A v p → p ≠ pa v → lo v ≤ nu p ∧ (pa p = v → lo v ≤ lo p)
theorem lw_un (hN : g_N A V) {r k : Nat} {nu pa lo lo' : Nat → Nat} (h : DI A V r [] k nu pa) (h1 : ∀ v, nu v ≠ 99 → lw A nu pa lo v) (h2 : ∀ v, nu v ≠ 99 → lw A nu pa lo' v) : ∀ v, nu v ≠ 99 → lo v = lo' v := by
  have key : ∀ n v, nu v ≠ 99 → 8 - nu v ≤ n → lo v = lo' v := by
    intro n
    induction n with
    | zero => intro v hv hn; have := DI_lt hN h hv; omega
    | succ n ih =>
      intro v hv hn
      have child : ∀ p, A v p → pa p = v → lo p = lo' p := fun p hA hp => by
        have hpm : nu p ≠ 99 := h.2.2.2.2.2.2.1 v hv (by simp) p hA
        have hv8 := (DI_lt hN h hv).1
        have hpr : p ≠ r := fun e => by
          have := h.2.2.2.2.2.2.2.2.1
          rw [e, this] at hp
          omega
        have := (h.2.2.2.2.2.2.2.1 p hpm hpr).1
        rw [hp] at this
        exact ih p hpm (by have := DI_lt hN h hpm; omega)
      obtain ⟨a1, a2, a3⟩ := h1 v hv
      obtain ⟨b1, b2, b3⟩ := h2 v hv
      refine Nat.le_antisymm ?_ ?_
      · rcases b1 with e | ⟨p, p1, p2, e | ⟨p3, e⟩⟩
        · omega
        · have := (a3 p p1 p2).1; omega
        · have := (a3 p p1 p2).2 p3
          rw [child p p1 p3] at this
          omega
      · rcases a1 with e | ⟨p, p1, p2, e | ⟨p3, e⟩⟩
        · omega
        · have := (b3 p p1 p2).1; omega
        · have := (b3 p p1 p2).2 p3
          rw [← child p p1 p3] at this
          omega
  exact fun v hv => key _ v hv (Nat.le_refl _)
end D1
