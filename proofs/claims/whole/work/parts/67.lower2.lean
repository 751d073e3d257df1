/-! ===== need is never too much (2) ===== -/
section Q4
variable {A : Nat → Nat → Prop} {V : Nat → Prop}
/-- the post at an end of a new link -/
def vt (x y : Nat → Nat) (t : Nat) : Nat := if t % 2 = 0 then x (t / 2) else y (t / 2)
theorem vt_0 (x y : Nat → Nat) (j : Nat) : vt x y (2 * j) = x j := by unfold vt; rw [if_pos (by omega), show 2 * j / 2 = j by omega]
theorem vt_1 (x y : Nat → Nat) (j : Nat) : vt x y (2 * j + 1) = y j := by unfold vt; rw [if_neg (by omega), show (2 * j + 1) / 2 = j by omega]
/-- a step of the new net: an old link, or a new one from one end to the other -/
theorem am_vt {x y : Nat → Nat} {m c d : Nat} (h : am A x y m c d) : A c d ∨ ∃ t t', t < 2 * m ∧ t' < 2 * m ∧ t ≠ t' ∧ t / 2 = t' / 2 ∧ vt x y t = c ∧ vt x y t' = d := by
  rcases (am_iff x y m c d).mp h with h | ⟨j, j1, ⟨e1, e2⟩ | ⟨e1, e2⟩⟩
  · exact Or.inl h
  · exact Or.inr ⟨2 * j, 2 * j + 1, by omega, by omega, by omega, by omega, by rw [vt_0]; exact e1.symm, by rw [vt_1]; exact e2.symm⟩
  · exact Or.inr ⟨2 * j + 1, 2 * j, by omega, by omega, by omega, by omega, by rw [vt_1]; exact e1.symm, by rw [vt_0]; exact e2.symm⟩
/-- a lone piece is met twice -/
theorem al_met (hN : g_N A V) {x y : Nat → Nat} {m : Nat} (hT : g_T (am A x y m) V) (h3 : 2 < g_n V 8) {i v : Nat} (hi : V i) (hv : V v) (hout : ¬ g_C A V i v) : ∃ t t', t < t' ∧ t' < 2 * m ∧ g_C A V i (vt x y t) ∧ g_C A V i (vt x y t') := by
  have hA := hN.1
  -- a link that leaves the piece
  have lv := g_ind (P := fun c => g_C A V i c ∨ ∃ t t', t < 2 * m ∧ t' < 2 * m ∧ t ≠ t' ∧ t / 2 = t' / 2 ∧ g_C A V i (vt x y t)) (g_T_conn hT hi hv) (Or.inl (g_rf hi)) (by
    intro c d _ ih e hd
    rcases ih with ih | ih
    · rcases am_vt e with e | ⟨t, t', t1, t2, t3, t4, t5, t6⟩
      · exact Or.inl (g_st ih e hd)
      · exact Or.inr ⟨t, t', t1, t2, t3, t4, by rw [t5]; exact ih⟩
    · exact Or.inr ih)
  obtain ⟨t, t', t1, t2, t3, t4, t5⟩ := lv.resolve_left hout
  refine Classical.byContradiction fun hc => ?_
  have one : ∀ r, r < 2 * m → g_C A V i (vt x y r) → r = t := fun r hr hk => by
    rcases Nat.lt_trichotomy r t with e | e | e
    · exact absurd ⟨r, t, e, t1, hk, t5⟩ hc
    · exact e
    · exact absurd ⟨t, r, e, hr, t5, hk⟩ hc
  have hcV : V (vt x y t) := g_in t5
  by_cases hw : ∃ w, g_C A V i w ∧ w ≠ vt x y t
  · obtain ⟨w, w1, w2⟩ := hw
    have hvc : v ≠ vt x y t := fun e => hout (by rw [e]; exact t5)
    refine hout (g_ind (P := fun c => g_C A V i c) (hT.2 (vt x y t) w v (g_in w1) hv w2 hvc) w1 (fun c d hcc ih e hd => ?_))
    rcases am_vt e with e | ⟨r, r', r1, r2, r3, r4, r5, r6⟩
    · exact g_st ih e hd.1
    · exfalso
      have := one r r1 (by rw [r5]; exact ih)
      exact (g_in hcc).2 (by rw [← r5, this])
  · have only : ∀ w, g_C A V i w → w = vt x y t := fun w h => Classical.byContradiction fun z => hw ⟨w, h, z⟩
    -- a third post
    obtain ⟨z, z1, z2, z3⟩ : ∃ z, V z ∧ z ≠ vt x y t ∧ z ≠ vt x y t' := by
      refine Classical.byContradiction fun hcc => ?_
      have e := g_n_split (P := V) (Q := fun c => c = vt x y t) 8
      have h1 : g_n (fun c => V c ∧ c = vt x y t) 8 ≤ 1 := g_n_atmost 8 (fun a b _ _ ha hb => ha.2.trans hb.2.symm)
      have h2 : g_n (fun c => V c ∧ ¬ c = vt x y t) 8 ≤ 1 := g_n_atmost 8 (fun a b _ _ ha hb => by
        have ea : a = vt x y t' := Classical.byContradiction fun q => hcc ⟨a, ha.1, ha.2, q⟩
        have eb : b = vt x y t' := Classical.byContradiction fun q => hcc ⟨b, hb.1, hb.2, q⟩
        exact ea.trans eb.symm)
      omega
    have htt : vt x y t ≠ vt x y t' := fun e => t3 (one t' t2 (by rw [← e]; exact t5)).symm
    have k := hT.2 (vt x y t') (vt x y t) z hcV z1 htt z3
    have := g_ind (P := fun c => c = vt x y t) k rfl (by
      intro c d hcc ih e hd
      rcases am_vt e with e | ⟨r, r', r1, r2, r3, r4, r5, r6⟩
      · exact only d (g_st t5 (ih ▸ e) hd.1)
      · exfalso
        have er := one r r1 (by rw [r5, ih]; exact t5)
        have er' : r' = t' := by omega
        exact hd.2 (by rw [← r6, er']))
    exact z2 this
/-- m new links that tie all: need is m at most -/
theorem nd_low (hN : g_N A V) {x y : Nat → Nat} {m : Nat} (h3 : 2 < g_n V 8) (hT : g_T (am A x y m) V) : nd A V ≤ m := by
  have hA := hN.1
  unfold nd
  rw [if_neg (by omega)]
  by_cases c0 : g_n (al A V) 8 = 1 ∧ sme A V 8 = 0
  · rw [if_pos c0]; exact Nat.zero_le _
  · rw [if_neg c0]
    -- parts without a post
    have hw : mxw A V 8 ≤ m + 1 := by
      refine mxw_le 8 (fun p hp hk => ?_)
      have h1 := am_n (S := g_D V p) hA (fun c hc => hN.2.2 c hc.1) x y m
      have h2 : g_n (g_L (am A x y m) (g_D V p)) 8 ≤ 1 := g_n_atmost 8 (fun i j _ _ hi hj => g_L_un (am_sy hA x y m) hi hj (hT.2 p i j hi.1.1 hj.1.1 hi.1.2 hj.1.2))
      unfold dw
      omega
    -- a lone piece isn't all
    have hout : ∀ i, al A V i → ∃ v, V v ∧ ¬ g_C A V i v := by
      intro i hi
      refine Classical.byContradiction fun hc => c0 ?_
      have all : ∀ v, V v → g_C A V i v := fun v hv => Classical.byContradiction fun z => hc ⟨v, hv, z⟩
      have nocut : ∀ p, ¬ g_K A V p := fun p hp => hi.2 p (all p hp.1) hp
      refine ⟨g_n_one 8 i (hN.2.2 i hi.1.1) hi (fun c _ hcc => g_L_un hA hcc.1 hi.1 (g_sy hA (all c hcc.1.1))), ?_⟩
      rw [sme_eq]
      exact g_n_zero _ (fun c _ h => nocut _ h.1)
    have hdem : sme A V 8 + (g_n (al A V) 8 + g_n (al A V) 8) ≤ 2 * m := by
      have e : g_n (fun c => (c < 64 ∧ en A V (c / 8) (c % 8)) ∨ (64 ≤ c ∧ c < 72 ∧ al A V (c - 64)) ∨ (72 ≤ c ∧ al A V (c - 72))) (64 + 8 + 8) = sme A V 8 + g_n (al A V) 8 + g_n (al A V) 8 := by
        rw [g_n_add, g_n_add, sme_eq]
        congr 1
        · congr 1
          · refine g_n_cong 64 (fun c hc => ⟨fun h => ?_, fun h => Or.inl ⟨hc, h⟩⟩)
            rcases h with h | h | h
            · exact h.2
            · omega
            · omega
          · refine g_n_cong 8 (fun c hc => ⟨fun h => ?_, fun h => Or.inr (Or.inl ⟨by omega, by omega, by rw [show 64 + c - 64 = c by omega]; exact h⟩)⟩)
            rcases h with h | h | h
            · omega
            · rw [show 64 + c - 64 = c by omega] at h; exact h.2.2
            · omega
        · refine g_n_cong 8 (fun c hc => ⟨fun h => ?_, fun h => Or.inr (Or.inr ⟨by omega, by rw [show 64 + 8 + c - 72 = c by omega]; exact h⟩)⟩)
          rcases h with h | h | h
          · omega
          · omega
          · rw [show 64 + 8 + c - 72 = c by omega] at h; exact h.2
      have php := g_n_php (64 + 8 + 8) (fun c t => (c < 64 ∧ en A V (c / 8) (c % 8) ∧ g_C A (g_D V (c / 8)) (c % 8) (vt x y t)) ∨ (64 ≤ c ∧ c < 72 ∧ al A V (c - 64) ∧ g_C A V (c - 64) (vt x y t) ∧ ∀ t', t' < t → ¬ g_C A V (c - 64) (vt x y t')) ∨ (72 ≤ c ∧ al A V (c - 72) ∧ g_C A V (c - 72) (vt x y t) ∧ ∃ t', t' < t ∧ g_C A V (c - 72) (vt x y t'))) (by
        have mix : ∀ p i k t, en A V p i → g_C A (g_D V p) i (vt x y t) → al A V k → ¬ g_C A V k (vt x y t) := fun p i k t h1 h2 h3 h4 => h3.2 p (g_tr h4 (g_sy hA (en_p hN h1 h2))) h1.1
        have same : ∀ k l t, al A V k → al A V l → g_C A V k (vt x y t) → g_C A V l (vt x y t) → k = l := fun k l t h1 h2 h3 h4 => g_L_un hA h1.1 h2.1 (g_tr h3 (g_sy hA h4))
        rintro c d t hc hd (⟨c1, c2, c3⟩ | ⟨c1, c2, c3, c4, c5⟩ | ⟨c1, c3, c4, c5⟩) (⟨d1, d2, d3⟩ | ⟨d1, d2, d3, d4, d5⟩ | ⟨d1, d3, d4, d5⟩)
        · have := en_dj hN c2 d2 c3 d3
          omega
        · exact absurd d4 (mix _ _ _ _ c2 c3 d3)
        · exact absurd d4 (mix _ _ _ _ c2 c3 d3)
        · exact absurd c4 (mix _ _ _ _ d2 d3 c3)
        · have := same _ _ _ c3 d3 c4 d4
          omega
        · exfalso
          have es := same _ _ _ c3 d3 c4 d4
          obtain ⟨t', t1, t2⟩ := d5
          exact c5 t' t1 (es ▸ t2)
        · exact absurd c4 (mix _ _ _ _ d2 d3 c3)
        · exfalso
          have es := same _ _ _ c3 d3 c4 d4
          obtain ⟨t', t1, t2⟩ := c5
          exact d5 t' t1 (es ▸ t2)
        · have := same _ _ _ c3 d3 c4 d4
          omega) (2 * m) (fun c => (c < 64 ∧ en A V (c / 8) (c % 8)) ∨ (64 ≤ c ∧ c < 72 ∧ al A V (c - 64)) ∨ (72 ≤ c ∧ al A V (c - 72))) (by
        rintro c hc (⟨c1, c2⟩ | ⟨c1, c2, c3⟩ | ⟨c1, c3⟩)
        · obtain ⟨t, t1, t2⟩ := en_met hN hT c2
          exact ⟨t, t1, Or.inl ⟨c1, c2, t2⟩⟩
        · obtain ⟨v, v1, v2⟩ := hout _ c3
          obtain ⟨t, t', q1, q2, q3, q4⟩ := al_met hN hT h3 c3.1.1 v1 v2
          obtain ⟨u, u1, u2⟩ := g_min (P := fun t => g_C A V (c - 64) (vt x y t)) q3
          have hut : u ≤ t := Classical.byContradiction fun z => u2 t (by omega) q3
          exact ⟨u, by omega, Or.inr (Or.inl ⟨c1, c2, c3, u1, fun r hr => u2 r hr⟩)⟩
        · obtain ⟨v, v1, v2⟩ := hout _ c3
          obtain ⟨t, t', q1, q2, q3, q4⟩ := al_met hN hT h3 c3.1.1 v1 v2
          exact ⟨t', q2, Or.inr (Or.inr ⟨c1, c3, q4, t, q1, q3⟩)⟩)
      omega
    omega
end Q4
