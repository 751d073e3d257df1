/-! ===== two pieces joined (2): need falls ===== -/
section Q7
variable {A : Nat → Nat → Prop} {V S : Nat → Prop} {a b : Nat}
/-- the demand that a link at a meets -/
def mkd (A : Nat → Nat → Prop) (V : Nat → Prop) (i a u : Nat) : Prop := dm A V u ∧ ((al A V i ∧ u = 64 + i) ∨ (u < 64 ∧ g_C A (g_D V (u / 8)) (u % 8) a))
theorem mkd_ex (hN : g_N A V) {i : Nat} (hi : g_L A V i) : ∃ a u, g_C A V i a ∧ ¬ g_K A V a ∧ mkd A V i a u := by
  have hA := hN.1
  have i8 := hN.2.2 i hi.1
  by_cases c : al A V i
  · exact ⟨i, 64 + i, g_rf hi.1, c.2 i (g_rf hi.1), Or.inr (Or.inl ⟨by omega, by omega, by rw [show 64 + i - 64 = i by omega]; exact c⟩), Or.inl ⟨c, rfl⟩⟩
  · obtain ⟨p, p1, p2⟩ : ∃ p, g_C A V i p ∧ g_K A V p := Classical.byContradiction fun hc => c ⟨hi, fun w hw hkw => hc ⟨w, hw, hkw⟩⟩
    obtain ⟨q, j, _, _, h1, _, _, h4, _⟩ := leaf_two hN p2
    have hj := g_rf (A := A) h1.2.1.1
    have d := en_dm hN h1
    exact ⟨j, q * 8 + j, g_tr p1 (h4 j hj), h1.2.2.1 j hj, d.2.2.2, Or.inr ⟨d.1, by rw [d.2.1, d.2.2.1]; exact hj⟩⟩
theorem sg_al (hN : g_N A V) (ka : ¬ g_K A V a) {i : Nat} (hi : g_L A V i) (hc : g_C A V i a) (hs : sg A V a) : al A V i := by
  refine ⟨hi, fun w hw kw => ka ?_⟩
  have := hs w (g_tr (g_sy hN.1 hc) hw)
  rw [this] at kw
  exact kw
theorem mkd_ne (hN : g_N A V) (hab : ¬ g_C A V a b) {i1 i2 u1 u2 : Nat} (c1 : g_C A V i1 a) (c2 : g_C A V i2 b) (m1 : mkd A V i1 a u1) (m2 : mkd A V i2 b u2) : u1 ≠ u2 := by
  intro e
  subst e
  rcases m1.2 with ⟨x1, x2⟩ | ⟨x1, x2⟩
  · rcases m2.2 with ⟨y1, y2⟩ | ⟨y1, y2⟩
    · have e : i1 = i2 := by omega
      subst e
      exact hab (g_tr (g_sy hN.1 c1) c2)
    · omega
  · rcases m2.2 with ⟨y1, y2⟩ | ⟨y1, y2⟩
    · omega
    · exact hab (g_out (g_tr (g_sy hN.1 x2) y2))
/-- an old end, untouched -/
theorem mkd_end {i u c : Nat} (m : mkd A V i a u) (hc : c < 64) (h : ¬ g_C A (g_D V (c / 8)) (c % 8) a) : c ≠ u := by
  intro e
  subst e
  rcases m.2 with ⟨x1, x2⟩ | ⟨x1, x2⟩
  · omega
  · exact h x2
theorem mkd_al {i u c k : Nat} (m : mkd A V i a u) (e : c = 64 + k) (h : k ≠ i) : c ≠ u := by
  intro z
  rcases m.2 with ⟨x1, x2⟩ | ⟨x1, x2⟩
  · omega
  · omega
theorem join_dm (hN : g_N A V) (ha : V a) (hb : V b) (hab : ¬ g_C A V a b) (ka : ¬ g_K A V a) (kb : ¬ g_K A V b) {i1 i2 u1 u2 : Nat} (l1 : g_L A V i1) (c1 : g_C A V i1 a) (l2 : g_L A V i2) (c2 : g_C A V i2 b) (m1 : mkd A V i1 a u1) (m2 : mkd A V i2 b u2) : g_n (dm (aj A a b) V) 80 + 2 ≤ g_n (dm A V) 80 := by
  have hA := hN.1
  have hu := mkd_ne hN hab c1 c2 m1 m2
  have hba : ¬ g_C A V b a := fun k => hab (g_sy hA k)
  have u80 : ∀ u, dm A V u → u < 80 := fun u h => by rcases h with h | h | h <;> omega
  have u72 : ∀ i a u, i < 8 → mkd A V i a u → u < 72 := fun i a u hi h => by rcases h.2 with z | z <;> omega
  have i18 := hN.2.2 i1 l1.1
  have i28 := hN.2.2 i2 l2.1
  have u1l := u72 i1 a u1 i18 m1
  have u2l := u72 i2 b u2 i28 m2
  have e := g_n_split (P := dm A V) (Q := fun t => t = u1 ∨ t = u2) 80
  have two : 2 ≤ g_n (fun t => dm A V t ∧ (t = u1 ∨ t = u2)) 80 := g_n_two 80 u1 u2 hu (u80 _ m1.1) (u80 _ m2.1) ⟨m1.1, Or.inl rfl⟩ ⟨m2.1, Or.inr rfl⟩
  have hne : i1 ≠ i2 := fun e => by subst e; exact hab (g_tr (g_sy hA c1) c2)
  have key : g_n (dm (aj A a b) V) 80 ≤ g_n (fun t => dm A V t ∧ ¬ (t = u1 ∨ t = u2)) 80 := by
    refine g_n_inj2 80 (fun c t => (t = c ∧ c ≠ 72 + i1 ∧ c ≠ 72 + i2) ∨ (yt A V a b 64 c ∧ t = 72 + i1) ∨ (yt A V b a 72 c ∧ t = 72 + i2)) ?_ 80 _ _ ?_
    · rintro c d t hc hd (⟨x1, x2, x3⟩ | ⟨x1, x2⟩ | ⟨x1, x2⟩) (⟨y1, y2, y3⟩ | ⟨y1, y2⟩ | ⟨y1, y2⟩)
      · omega
      · omega
      · omega
      · omega
      · exact yt_un hN ka x1 y1
      · omega
      · omega
      · omega
      · exact yt_un hN kb x1 y1
    · intro c hc h
      have t1 : al A V i1 → yt A V a b 64 c → ∃ v, v < 80 ∧ (dm A V v ∧ ¬ (v = u1 ∨ v = u2)) ∧ ((v = c ∧ c ≠ 72 + i1 ∧ c ≠ 72 + i2) ∨ (yt A V a b 64 c ∧ v = 72 + i1) ∨ (yt A V b a 72 c ∧ v = 72 + i2)) := fun hal hy => ⟨72 + i1, by omega, ⟨Or.inr (Or.inr ⟨by omega, by omega, by rw [show 72 + i1 - 72 = i1 by omega]; exact hal⟩), by omega⟩, Or.inr (Or.inl ⟨hy, rfl⟩)⟩
      have t2 : al A V i2 → yt A V b a 72 c → ∃ v, v < 80 ∧ (dm A V v ∧ ¬ (v = u1 ∨ v = u2)) ∧ ((v = c ∧ c ≠ 72 + i1 ∧ c ≠ 72 + i2) ∨ (yt A V a b 64 c ∧ v = 72 + i1) ∨ (yt A V b a 72 c ∧ v = 72 + i2)) := fun hal hy => ⟨72 + i2, by omega, ⟨Or.inr (Or.inr ⟨by omega, by omega, by rw [show 72 + i2 - 72 = i2 by omega]; exact hal⟩), by omega⟩, Or.inr (Or.inr ⟨hy, rfl⟩)⟩
      have al1 : (∀ w, g_C A V a w → ¬ g_K A V w) → al A V i1 := fun h => ⟨l1, fun w hw => h w (g_tr (g_sy hA c1) hw)⟩
      have al2 : (∀ w, g_C A V b w → ¬ g_K A V w) → al A V i2 := fun h => ⟨l2, fun w hw => h w (g_tr (g_sy hA c2) hw)⟩
      rcases h with ⟨h1, h2⟩ | ⟨h1, h2, h3⟩ | ⟨h1, h2, h3⟩
      · rcases en_aj hN ha hb hab ka kb h2 with ⟨k1, k2, k3⟩ | ⟨k1, k2, k3, k4⟩ | ⟨k1, k2, k3, k4⟩
        · have n1 := mkd_end m1 h1 k2
          have n2 := mkd_end m2 h1 k3
          exact ⟨c, hc, ⟨Or.inl ⟨h1, k1⟩, by omega⟩, Or.inl ⟨rfl, by omega, by omega⟩⟩
        · rcases k4 with ⟨k5, k6⟩ | ⟨k5, k6⟩
          · exact t2 (sg_al hN kb l2 c2 k6) (Or.inr (Or.inl ⟨h1, k1, k2, k5, k6⟩))
          · exact t1 (al1 k6) (Or.inl ⟨h1, k1, k3, k5⟩)
        · rcases k4 with ⟨k5, k6⟩ | ⟨k5, k6⟩
          · exact t1 (sg_al hN ka l1 c1 k6) (Or.inr (Or.inl ⟨h1, k1, k2, k5, k6⟩))
          · exact t2 (al2 k6) (Or.inl ⟨h1, k1, k3, k5⟩)
      · rcases al_aj hN ha hb hab h3 with ⟨k1, k2, k3⟩ | ⟨k1, k2, k3, k4⟩
        · have n1 : c - 64 ≠ i1 := fun e => k2 (by rw [e]; exact c1)
          have n2 : c - 64 ≠ i2 := fun e => k3 (by rw [e]; exact c2)
          have n3 := mkd_al m1 (show c = 64 + (c - 64) by omega) n1
          have n4 := mkd_al m2 (show c = 64 + (c - 64) by omega) n2
          exact ⟨c, hc, ⟨Or.inr (Or.inl ⟨h1, h2, k1⟩), by omega⟩, Or.inl ⟨rfl, by omega, by omega⟩⟩
        · exact t1 (sg_al hN ka l1 c1 k1) (Or.inr (Or.inr ⟨h1, by omega, k1, k2, k3, k4⟩))
      · rcases al_aj hN ha hb hab h3 with ⟨k1, k2, k3⟩ | ⟨k1, k2, k3, k4⟩
        · have n1 : c - 72 ≠ i1 := fun e => k2 (by rw [e]; exact c1)
          have n2 : c - 72 ≠ i2 := fun e => k3 (by rw [e]; exact c2)
          exact ⟨c, hc, ⟨Or.inr (Or.inr ⟨h1, h2, k1⟩), by omega⟩, Or.inl ⟨rfl, by omega, by omega⟩⟩
        · refine t2 (sg_al hN kb l2 c2 k2) (Or.inr (Or.inr ⟨h1, by omega, k2, k1, ?_⟩))
          rw [aj_cm (a := b) (b := a)]
          exact ⟨k3, g_tr (g_st (g_rf hb) (Or.inr (Or.inr ⟨rfl, rfl⟩)) ha) k4⟩
  omega
/-- a link between two pieces: one less -/
theorem aj_lt (hA : ∀ a b, A a b → A b a) (hS : ∀ c, S c → c < 8) (ha : S a) (hb : S b) (hab : ¬ g_C A S a b) : g_n (g_L (aj A a b) S) 8 < g_n (g_L A S) 8 := by
  obtain ⟨i, i1, i2, _⟩ := g_L_ex (A := A) (V := S) ha
  obtain ⟨j, j1, j2, _⟩ := g_L_ex (A := A) (V := S) hb
  have hij : i ≠ j := fun e => hab (g_tr i2 (by rw [e]; exact g_sy hA j2))
  have hA' := aj_sy (a := a) (b := b) hA
  have t : g_C (aj A a b) S i j := g_tr (g_sy hA' (aj_in i2)) (g_tr (g_st (g_rf ha) (Or.inr (Or.inl ⟨rfl, rfl⟩)) hb) (aj_in j2))
  have sub : ∀ c, c < 8 → g_L (aj A a b) S c → g_L A S c := fun c _ h => ⟨h.1, fun k hk hc => h.2 k hk (aj_in hc)⟩
  rcases Nat.lt_or_ge i j with e | e
  · exact g_n_lt 8 j (hS j j1.1) sub j1 (fun h => h.2 i e (g_sy hA' t))
  · exact g_n_lt 8 i (hS i i1.1) sub i1 (fun h => h.2 j (by omega) t)
/-- more than one piece: some link lessens the need -/
theorem nd_U1 (hN : g_N A V) (h3 : 2 < g_n V 8) (hd : 2 ≤ g_n (g_L A V) 8) : ∃ a b, V a ∧ V b ∧ a ≠ b ∧ ¬ A a b ∧ nd (aj A a b) V < nd A V := by
  have hA := hN.1
  obtain ⟨i1, i2, _, _, l1, l2, hne⟩ := g_n_2.mp hd
  obtain ⟨a, u1, c1, ka, m1⟩ := mkd_ex hN l1
  obtain ⟨b, u2, c2, kb, m2⟩ := mkd_ex hN l2
  have hab : ¬ g_C A V a b := fun k => hne (g_L_un hA l1 l2 (g_tr c1 (g_tr k (g_sy hA c2))))
  have ha := g_in c1
  have hb := g_in c2
  have hnab : a ≠ b := fun e => hab (by rw [← e]; exact g_rf ha)
  refine ⟨a, b, ha, hb, hnab, fun k => hab (g_st (g_rf ha) k hb), ?_⟩
  have D := join_dm hN ha hb hab ka kb l1 c1 l2 c2 m1 m2
  have D2 := dm_2 hN
  rw [dm_n, dm_n] at D
  rw [dm_n] at D2
  have W : mxw (aj A a b) V 8 ≤ max (mxw A V 8 - 1) ((sme A V 8 + 1) / 2 + g_n (al A V) 8) := by
    refine mxw_le 8 (fun p hp hk => ?_)
    have atab : ∀ p, V p → ¬ g_K A V p → dw (aj A a b) V p ≤ (sme A V 8 + 1) / 2 + g_n (al A V) 8 := fun p hp hk => by
      have h1 : dw (aj A a b) V p ≤ dw A V p := g_n_le 8 (fun c _ h => ⟨h.1, fun k hk hc => h.2 k hk (aj_in hc)⟩)
      have h2 : ¬ g_n (g_L A V) 8 < g_n (g_L A (g_D V p)) 8 := fun z => hk ((g_cut_n hA hN.2.2 hp).mp z)
      unfold dw at h1 ⊢
      omega
    by_cases epa : p = a
    · have := atab p hk.1 (by rw [epa]; exact ka)
      omega
    by_cases epb : p = b
    · have := atab p hk.1 (by rw [epb]; exact kb)
      omega
    have h1 := aj_lt (S := g_D V p) hA (fun c hc => hN.2.2 c hc.1) ⟨ha, fun e => epa e.symm⟩ ⟨hb, fun e => epb e.symm⟩ (fun k => hab (g_out k))
    have h2 := mxw_ge ((ajK hN hab epa epb).mp hk) 8 hp
    unfold dw at h2 ⊢
    omega
  have n0 : ¬ g_n V 8 ≤ 2 := by omega
  unfold nd
  rw [if_neg n0, if_neg n0, if_neg (show ¬ (g_n (al A V) 8 = 1 ∧ sme A V 8 = 0) by omega)]
  by_cases c0 : g_n (al (aj A a b) V) 8 = 1 ∧ sme (aj A a b) V 8 = 0
  · rw [if_pos c0]; omega
  · rw [if_neg c0]; omega
end Q7
