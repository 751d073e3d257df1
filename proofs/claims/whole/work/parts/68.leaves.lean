/-! ===== ends there are; demands ===== -/
section Q5
variable {A : Nat → Nat → Prop} {V : Nat → Prop}
/-- in each part beside a cut there is an end -/
theorem leaf (hN : g_N A V) : ∀ n p c, V p → g_n (fun w => g_C A (g_D V p) c w) 8 ≤ n → g_K A V p → (∃ w, g_C A (g_D V p) c w ∧ A p w) → ∃ q i, en A V q i ∧ ∀ w, g_C A (g_D V q) i w → g_C A (g_D V p) c w := by
  have hA := hN.1
  intro n
  induction n with
  | zero =>
    rintro p c hp hn hk ⟨w, w1, w2⟩
    have := g_n_pos (P := fun w => g_C A (g_D V p) c w) 8 w (hN.2.2 w (g_in w1).1) w1
    omega
  | succ n ih =>
    rintro p c hp hn hk ⟨w, w1, w2⟩
    by_cases hcut : ∃ q, g_C A (g_D V p) c q ∧ g_K A V q
    · obtain ⟨q, q1, q2⟩ := hcut
      have hqp : q ≠ p := (g_in q1).2
      obtain ⟨_, u, v, u1, v1, hu, hv, huq, hvq, hno⟩ := id q2
      -- one neighbour of q that doesn't come to p without q
      obtain ⟨z, z1, z2, z3, z4⟩ : ∃ z, A q z ∧ V z ∧ z ≠ q ∧ ¬ g_C A (g_D V q) z p := by
        by_cases cu : g_C A (g_D V q) u p
        · exact ⟨v, v1, hv, hvq, fun k => hno (g_tr cu (g_sy hA k))⟩
        · exact ⟨u, u1, hu, huq, cu⟩
      have hzp : z ≠ p := fun e => z4 (e ▸ g_rf ⟨z2, z3⟩)
      have sub : ∀ r, g_C A (g_D V q) z r → g_C A (g_D V p) c r := fun r hr => by
        refine g_ind (P := fun r => g_C A (g_D V p) c r) hr (g_st q1 z1 ⟨z2, hzp⟩) (fun e f he ihe hef hf => ?_)
        refine g_st ihe hef ⟨hf.1, fun k => z4 ?_⟩
        rw [← k]
        exact g_st he hef hf
      have hlt := g_n_lt (P := fun w => g_C A (g_D V q) z w) (Q := fun w => g_C A (g_D V p) c w) 8 q (hN.2.2 q q2.1) (fun r _ hr => sub r hr) q1 (fun k => (g_in k).2 rfl)
      obtain ⟨q', i, h1, h2⟩ := ih q z q2.1 (by omega) q2 ⟨z, g_rf ⟨z2, z3⟩, z1⟩
      exact ⟨q', i, h1, fun r hr => sub r (h2 r hr)⟩
    · obtain ⟨i, i1, i2, _⟩ := g_L_ex (A := A) (V := g_D V p) (v := c) w1.1
      have sub : ∀ r, g_C A (g_D V p) i r → g_C A (g_D V p) c r := fun r hr => g_tr i2 hr
      exact ⟨p, i, ⟨hk, i1, fun r hr hkr => hcut ⟨r, sub r hr, hkr⟩, w, g_tr (g_sy hA i2) w1, w2⟩, sub⟩
theorem leaf_at (hN : g_N A V) {p c : Nat} (hk : g_K A V p) (h : ∃ w, g_C A (g_D V p) c w ∧ A p w) : ∃ q i, en A V q i ∧ ∀ w, g_C A (g_D V q) i w → g_C A (g_D V p) c w := leaf hN 8 p c hk.1 (g_n_bound 8) hk h
/-- beside a cut there are two ends -/
theorem leaf_two (hN : g_N A V) {p : Nat} (hk : g_K A V p) : ∃ q i q' i', en A V q i ∧ en A V q' i' ∧ ¬ (q = q' ∧ i = i') ∧ (∀ w, g_C A (g_D V q) i w → g_C A V p w) ∧ ∀ w, g_C A (g_D V q') i' w → g_C A V p w := by
  have hA := hN.1
  obtain ⟨hp, u, v, u1, v1, hu, hv, hup, hvp, hno⟩ := id hk
  obtain ⟨q, i, h1, h2⟩ := leaf_at hN (c := u) hk ⟨u, g_rf ⟨hu, hup⟩, u1⟩
  obtain ⟨q', i', k1, k2⟩ := leaf_at hN (c := v) hk ⟨v, g_rf ⟨hv, hvp⟩, v1⟩
  refine ⟨q, i, q', i', h1, k1, ?_, fun w hw => g_fr u1 hp (g_out (h2 w hw)), fun w hw => g_fr v1 hp (g_out (k2 w hw))⟩
  rintro ⟨rfl, rfl⟩
  have hi := g_rf (A := A) h1.2.1.1
  exact hno (g_tr (h2 i hi) (g_sy hA (k2 i hi)))
/-- a demand: an end, a lone piece, a lone piece once more -/
def dm (A : Nat → Nat → Prop) (V : Nat → Prop) (c : Nat) : Prop := (c < 64 ∧ en A V (c / 8) (c % 8)) ∨ (64 ≤ c ∧ c < 72 ∧ al A V (c - 64)) ∨ (72 ≤ c ∧ c < 80 ∧ al A V (c - 72))
theorem dm_n : g_n (dm A V) 80 = sme A V 8 + g_n (al A V) 8 + g_n (al A V) 8 := by
  rw [show 80 = 64 + 8 + 8 from rfl, g_n_add, g_n_add, sme_eq]
  congr 1
  · congr 1
    · refine g_n_cong 64 (fun c hc => ⟨fun h => ?_, fun h => Or.inl ⟨hc, h⟩⟩)
      rcases h with h | h | h
      · exact h.2
      · omega
      · omega
    · refine g_n_cong 8 (fun c hc => ⟨fun h => ?_, fun h => Or.inr (Or.inl ⟨by omega, by omega, by rw [show 64 + c - 64 = c by omega]; exact h⟩)⟩)
      rcases h with h | h | h
      · omega
      · rw [show 64 + c - 64 = c by omega] at h; exact h.2.2
      · omega
  · refine g_n_cong 8 (fun c hc => ⟨fun h => ?_, fun h => Or.inr (Or.inr ⟨by omega, by omega, by rw [show 64 + 8 + c - 72 = c by omega]; exact h⟩)⟩)
    rcases h with h | h | h
    · omega
    · omega
    · rw [show 64 + 8 + c - 72 = c by omega] at h; exact h.2.2
/-- the code of an end -/
theorem en_dm (hN : g_N A V) {p i : Nat} (h : en A V p i) : p * 8 + i < 64 ∧ (p * 8 + i) / 8 = p ∧ (p * 8 + i) % 8 = i ∧ dm A V (p * 8 + i) := by
  have hp := hN.2.2 p h.1.1
  have hi := hN.2.2 i h.2.1.1.1
  have e1 : (p * 8 + i) / 8 = p := by omega
  have e2 : (p * 8 + i) % 8 = i := by omega
  exact ⟨by omega, e1, e2, Or.inl ⟨by omega, by rw [e1, e2]; exact h⟩⟩
/-- an end of the piece of k -/
def en_k (A : Nat → Nat → Prop) (V : Nat → Prop) (k c : Nat) : Prop := c < 64 ∧ en A V (c / 8) (c % 8) ∧ g_C A V k (c / 8)
/-- each piece has two demands at least -/
theorem dm_2 (hN : g_N A V) : g_n (g_L A V) 8 + g_n (g_L A V) 8 ≤ g_n (dm A V) 80 := by
  have hA := hN.1
  have e : g_n (fun c => g_L A V (c % 8)) (8 + 8) = g_n (g_L A V) 8 + g_n (g_L A V) 8 := by
    have e1 : g_n (fun c => g_L A V (c % 8)) 8 = g_n (g_L A V) 8 := g_n_cong 8 (fun c hc => by show g_L A V (c % 8) ↔ g_L A V c; rw [show c % 8 = c by omega])
    have e2 : g_n (fun c => g_L A V ((8 + c) % 8)) 8 = g_n (g_L A V) 8 := g_n_cong 8 (fun c hc => by show g_L A V ((8 + c) % 8) ↔ g_L A V c; rw [show (8 + c) % 8 = c by omega])
    rw [g_n_add, e1, e2]
  rw [← e]
  -- a piece with a cut has two ends
  have two : ∀ k, g_L A V k → ¬ al A V k → ∃ c c', c < c' ∧ en_k A V k c ∧ en_k A V k c' := by
    intro k hk hna
    obtain ⟨p, p1, p2⟩ : ∃ p, g_C A V k p ∧ g_K A V p := Classical.byContradiction fun hc => hna ⟨hk, fun w hw hkw => hc ⟨w, hw, hkw⟩⟩
    obtain ⟨q, i, q', i', h1, h2, h3, h4, h5⟩ := leaf_two hN p2
    have cod : ∀ q i, en A V q i → (∀ w, g_C A (g_D V q) i w → g_C A V p w) → en_k A V k (q * 8 + i) := fun q i h hin => by
      have d := en_dm hN h
      refine ⟨d.1, by rw [d.2.1, d.2.2.1]; exact h, ?_⟩
      rw [d.2.1]
      have hi := g_rf (A := A) h.2.1.1
      exact g_tr p1 (g_tr (hin i hi) (g_sy hA (en_p hN h hi)))
    have c1 := cod q i h1 h4
    have c2 := cod q' i' h2 h5
    have d1 := en_dm hN h1
    have d2 := en_dm hN h2
    rcases Nat.lt_trichotomy (q * 8 + i) (q' * 8 + i') with e | e | e
    · exact ⟨_, _, e, c1, c2⟩
    · exact absurd ⟨by omega, by omega⟩ h3
    · exact ⟨_, _, e, c2, c1⟩
  refine g_n_inj2 (8 + 8) (fun c t => g_L A V (c % 8) ∧ ((al A V (c % 8) ∧ t = 64 + c) ∨ (¬ al A V (c % 8) ∧ en_k A V (c % 8) t ∧ ((c < 8 ∧ ∀ t', t' < t → ¬ en_k A V (c % 8) t') ∨ (8 ≤ c ∧ ∃ t', t' < t ∧ en_k A V (c % 8) t'))))) ?_ 80 _ (dm A V) ?_
  · rintro c d t hc hd ⟨hLc, hcc⟩ ⟨hLd, hdd⟩
    have same : en_k A V (c % 8) t → en_k A V (d % 8) t → c % 8 = d % 8 := fun h1 h2 => g_L_un hA hLc hLd (g_tr h1.2.2 (g_sy hA h2.2.2))
    rcases hcc with ⟨c1, c2⟩ | ⟨c1, c2, c3⟩
    · rcases hdd with ⟨d1, d2⟩ | ⟨d1, d2, d3⟩
      · omega
      · have := d2.1; omega
    · rcases hdd with ⟨d1, d2⟩ | ⟨d1, d2, d3⟩
      · have := c2.1; omega
      · have es := same c2 d2
        rcases c3 with ⟨x1, x2⟩ | ⟨x1, x2⟩
        · rcases d3 with ⟨y1, y2⟩ | ⟨y1, y2⟩
          · omega
          · obtain ⟨t', t1, t2⟩ := y2
            exact absurd (es ▸ t2) (x2 t' t1)
        · rcases d3 with ⟨y1, y2⟩ | ⟨y1, y2⟩
          · obtain ⟨t', t1, t2⟩ := x2
            exact absurd (es ▸ t2) (y2 t' t1)
          · omega
  · intro c hc hL
    by_cases ha : al A V (c % 8)
    · refine ⟨64 + c, by omega, ?_, hL, Or.inl ⟨ha, rfl⟩⟩
      by_cases c8 : c < 8
      · exact Or.inr (Or.inl ⟨by omega, by omega, by rw [show 64 + c - 64 = c % 8 by omega]; exact ha⟩)
      · exact Or.inr (Or.inr ⟨by omega, by omega, by rw [show 64 + c - 72 = c % 8 by omega]; exact ha⟩)
    · obtain ⟨t, t', t1, t2, t3⟩ := two (c % 8) hL ha
      by_cases c8 : c < 8
      · obtain ⟨u, u1, u2⟩ := g_min (P := en_k A V (c % 8)) t2
        have := u1.1
        exact ⟨u, by omega, Or.inl ⟨u1.1, u1.2.1⟩, hL, Or.inr ⟨ha, u1, Or.inl ⟨c8, u2⟩⟩⟩
      · have := t3.1
        exact ⟨t', by omega, Or.inl ⟨t3.1, t3.2.1⟩, hL, Or.inr ⟨ha, t3, Or.inr ⟨by omega, t, t1, t2⟩⟩⟩
end Q5
