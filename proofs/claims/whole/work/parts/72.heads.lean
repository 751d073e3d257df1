/-! ===== a net of one piece (2): when no new end comes ===== -/
section Q9
variable {A : Nat → Nat → Prop} {V : Nat → Prop} {a b r s v : Nat}
theorem g_n_3 {P : Nat → Prop} {n i j k : Nat} (hij : i ≠ j) (hik : i ≠ k) (hjk : j ≠ k) (hi : i < n) (hj : j < n) (hk : k < n) (pi : P i) (pj : P j) (pk : P k) : 3 ≤ g_n P n := by
  have e := g_n_split (P := P) (Q := fun t => t = i ∨ t = j) n
  have h1 : 2 ≤ g_n (fun t => P t ∧ (t = i ∨ t = j)) n := g_n_two n i j hij hi hj ⟨pi, Or.inl rfl⟩ ⟨pj, Or.inr rfl⟩
  have h2 : 0 < g_n (fun t => P t ∧ ¬ (t = i ∨ t = j)) n := g_n_pos n k hk ⟨pk, by omega⟩
  omega
/-- two parts: of three posts two are in one -/
theorem parts_2 (hN : g_N A V) {u x y z : Nat} (h : dw A V u ≤ 2) (hx : g_D V u x) (hy : g_D V u y) (hz : g_D V u z) : g_C A (g_D V u) x y ∨ g_C A (g_D V u) x z ∨ g_C A (g_D V u) y z := by
  have hA := hN.1
  refine Classical.byContradiction fun hc => ?_
  obtain ⟨i, i1, i2, _⟩ := g_L_ex (A := A) hx
  obtain ⟨j, j1, j2, _⟩ := g_L_ex (A := A) hy
  obtain ⟨k, k1, k2, _⟩ := g_L_ex (A := A) hz
  have e1 : i ≠ j := fun e => hc (Or.inl (g_tr i2 (by rw [e]; exact g_sy hA j2)))
  have e2 : i ≠ k := fun e => hc (Or.inr (Or.inl (g_tr i2 (by rw [e]; exact g_sy hA k2))))
  have e3 : j ≠ k := fun e => hc (Or.inr (Or.inr (g_tr j2 (by rw [e]; exact g_sy hA k2))))
  have := g_n_3 (P := g_L A (g_D V u)) (n := 8) e1 e2 e3 (hN.2.2 i i1.1.1) (hN.2.2 j j1.1.1) (hN.2.2 k k1.1.1) i1 j1 k1
  unfold dw at h
  omega
/-- what is not in x's part beside v doesn't part x from v -/
theorem near (hN : g_N A V) (hc : cn A V) {x y : Nat} (hv : V v) (hx : V x) (hxv : x ≠ v) (hyv : y ≠ v) (h : ¬ g_C A (g_D V v) x y) : g_C A (g_D V y) x v := by
  have hA := hN.1
  obtain ⟨u, u1, u2⟩ := g_first (hc v x hv hx) hxv
  have hxy : x ≠ y := fun e => h (by rw [← e]; exact g_rf ⟨hx, hxv⟩)
  rcases g_one (y := y) (g_sy hA u2) hxy with k | k
  · exact g_st (g_mo k (fun c hc => ⟨hc.1.1, hc.2⟩)) (hA _ _ u1) ⟨hv, Ne.symm hyv⟩
  · exact absurd k h
/-- a cut that is a mate of a and parts it from r -/
theorem head_cut {B : Nat → Nat → Prop} (hN : g_N B V) (hc : cn B V) (ha : V a) (hr : V r) (har : a ≠ r) (h : ¬ g_M B V a r) : ∃ u, u ≠ a ∧ u ≠ r ∧ g_K B V u ∧ g_M B V a u ∧ ¬ g_C B (g_D V u) a r := by
  obtain ⟨p, hp⟩ := g_H_ex hN.1 hN.2.2 (hc a r ha hr) har
  rcases hp with ⟨k, _⟩ | ⟨_, k1, k2, k3⟩
  · exact absurd k h
  · have hpr : p ≠ r := fun e => h (by rw [← e]; exact k2)
    exact ⟨p, k1, hpr, cn_cut hN hc (g_in k2.1) ha hr (Ne.symm k1) (Ne.symm hpr) k3, k2, k3⟩
/-- a post of a third end is no mate of a in the new net -/
theorem no_mate (hN : g_N A V) {p3 j3 : Nat} (h3 : en A V p3 j3) (hr : g_C A (g_D V p3) j3 r) (ka : ¬ g_K A V a) (na : ¬ g_C A (g_D V p3) j3 a) (nb : ¬ g_C A (g_D V p3) j3 b) : ¬ g_M (aj A a b) V a r := by
  have hA := hN.1
  intro m
  have h1 : p3 ≠ a := fun e => ka (by rw [← e]; exact h3.1)
  have h2 : p3 ≠ r := fun e => (g_in hr).2 e.symm
  rcases aj_out hA (m.2 p3 h1 h2) with k | ⟨_, k⟩ | ⟨_, k⟩
  · exact na (g_tr hr (g_sy hA k))
  · exact nb (g_tr hr (g_sy hA k))
  · exact na (g_tr hr (g_sy hA k))
theorem dw_cut (hN : g_N A V) (hc : cn A V) {p : Nat} (hp : V p) : 2 ≤ dw A V p ↔ g_K A V p := by
  rw [← g_cut_n hN.1 hN.2.2 hp]
  have h1 : g_n (g_L A V) 8 = 1 := by
    obtain ⟨i, i1, i2, _⟩ := g_L_ex (A := A) hp
    exact g_n_one 8 i (hN.2.2 i i1.1) i1 (fun c _ h => g_L_un hN.1 h i1 (hc c i h.1 i1.1))
  unfold dw
  omega
/-- a and r in one of three or more parts beside v, b in another: no new end -/
theorem new_3 (hN : g_N A V) (hc : cn A V) {p1 j1 p2 j2 p3 j3 : Nat} (h : e2 A V a b p1 j1 p2 j2) (h3 : en A V p3 j3) (hr : g_C A (g_D V p3) j3 r) (na : ¬ g_C A (g_D V p3) j3 a) (nb : ¬ g_C A (g_D V p3) j3 b) (kv : g_K A V v) (d3 : 3 ≤ dw A V v) (har : g_C A (g_D V v) a r) (hab : ¬ g_C A (g_D V v) a b) {p j : Nat} (he : en (aj A a b) V p j) : ¬ g_C (aj A a b) (g_D V p) j a := by
  have hA := hN.1
  obtain ⟨x1, x2, x3, x4, x5⟩ := h
  have ka := x1.2.2.1 a x4
  have kb := x2.2.2.1 b x5
  have ha := (g_in x4).1
  have hb := (g_in x5).1
  have hv := kv.1
  have hne : a ≠ b := fun e => hab (by rw [← e]; exact g_rf har.1)
  have hN' := aj_N hN ha hb hne
  have hc' : cn (aj A a b) V := cn_aj hc
  have hrn : a ≠ r := fun e => na (by rw [e]; exact hr)
  have hav : a ≠ v := fun e => ka (by rw [e]; exact kv)
  have hbv : b ≠ v := fun e => kb (by rw [e]; exact kv)
  obtain ⟨u, u1, u2, u3, u4, u5⟩ := head_cut hN' hc' ha (g_in hr).1 hrn (no_mate hN h3 hr ka na nb)
  have huv : v ≠ u := fun e => u5 (by rw [← e]; exact aj_in har)
  have kv' : g_K (aj A a b) V v := by
    refine (dw_cut hN' hc' hv).mp ?_
    have := aj_n (A := A) (S := g_D V v) (a := a) (b := b) hA (fun c hc => hN.2.2 c hc.1)
    unfold dw at d3 ⊢
    omega
  have mv : g_M (aj A a b) V a v := by
    refine g_M_of (hc' a v ha hv) (fun y hy hya hyv => ?_)
    by_cases c : g_C A (g_D V v) a y
    · have nby : ¬ g_C A (g_D V v) b y := fun k => hab (g_tr c (g_sy hA k))
      have hby : b ≠ y := fun e => hab (by rw [e]; exact c)
      exact g_tr (g_st (g_rf ⟨ha, Ne.symm hya⟩) (Or.inr (Or.inl ⟨rfl, rfl⟩)) ⟨hb, hby⟩) (aj_in (near hN hc hv hb hbv hyv nby))
    · exact aj_in (near hN hc hv ha hav hyv c)
  exact no_new huv (fun k => ka (cn_K hN hc k)) kv' u3 mv u4 he
/-- two parts beside each cut: no new end, or a cut parts a, b from r, s -/
theorem new_2 (hN : g_N A V) (hc : cn A V) (hd : ∀ p, g_K A V p → dw A V p ≤ 2) {p1 j1 p2 j2 p3 j3 p4 j4 : Nat} (h : e2 A V a b p1 j1 p2 j2) (h3 : en A V p3 j3) (hr : g_C A (g_D V p3) j3 r) (na : ¬ g_C A (g_D V p3) j3 a) (nb : ¬ g_C A (g_D V p3) j3 b) (h4 : en A V p4 j4) (hs : g_C A (g_D V p4) j4 s) (na' : ¬ g_C A (g_D V p4) j4 a) (nb' : ¬ g_C A (g_D V p4) j4 b) : (∀ p j, en (aj A a b) V p j → ¬ g_C (aj A a b) (g_D V p) j a) ∨ ∃ u, g_C A (g_D V u) a b ∧ g_C A (g_D V u) r s ∧ ¬ g_C A (g_D V u) a r := by
  have hA := hN.1
  obtain ⟨x1, x2, x3, x4, x5⟩ := id h
  have ka := x1.2.2.1 a x4
  have kb := x2.2.2.1 b x5
  have ha := (g_in x4).1
  have hb := (g_in x5).1
  have hne : a ≠ b := fun e => x3 (en_dj hN x1 x2 x4 (by rw [e]; exact x5))
  have hN' := aj_N hN ha hb hne
  have hc' : cn (aj A a b) V := cn_aj hc
  have hrn : a ≠ r := fun e => na (by rw [e]; exact hr)
  have hsn : a ≠ s := fun e => na' (by rw [e]; exact hs)
  obtain ⟨u, u1, u2, u3, u4, u5⟩ := head_cut hN' hc' ha (g_in hr).1 hrn (no_mate hN h3 hr ka na nb)
  obtain ⟨w, w1, w2, w3, w4, w5⟩ := head_cut hN' hc' ha (g_in hs).1 hsn (no_mate hN h4 hs ka na' nb')
  by_cases e : u = w
  · subst e
    right
    have ku := cn_K hN hc u3
    have hbu : b ≠ u := fun e => kb (by rw [e]; exact ku)
    have da : g_D V u a := ⟨ha, Ne.symm u1⟩
    have db : g_D V u b := ⟨hb, hbu⟩
    have dr : g_D V u r := ⟨(g_in hr).1, Ne.symm u2⟩
    have ds : g_D V u s := ⟨(g_in hs).1, Ne.symm w2⟩
    have nar : ¬ g_C A (g_D V u) a r := fun k => u5 (aj_in k)
    have nas : ¬ g_C A (g_D V u) a s := fun k => w5 (aj_in k)
    have nbr : ¬ g_C A (g_D V u) b r := fun k => u5 (g_tr (g_st (g_rf da) (Or.inr (Or.inl ⟨rfl, rfl⟩)) db) (aj_in k))
    refine ⟨u, ?_, ?_, nar⟩
    · rcases parts_2 hN (hd u ku) da db dr with k | k | k
      · exact k
      · exact absurd k nar
      · exact absurd k nbr
    · rcases parts_2 hN (hd u ku) da dr ds with k | k | k
      · exact absurd k nar
      · exact absurd k nas
      · exact k
  · left
    intro p j he
    exact no_new e (fun k => ka (cn_K hN hc k)) u3 w3 u4 w4 he
/-- a b | r s and a r | b s don't go together -/
theorem four (hN : g_N A V) (hc : cn A V) {u h : Nat} (u1 : g_C A (g_D V u) a b) (u2 : g_C A (g_D V u) r s) (u3 : ¬ g_C A (g_D V u) a r) (h1 : g_C A (g_D V h) a r) (h2 : g_C A (g_D V h) b s) (h3 : ¬ g_C A (g_D V h) a b) : False := by
  have hA := hN.1
  by_cases c : g_C A (g_D V u) a h
  · -- r and s come together without h
    have k : g_C A (g_D V h) r s := by
      rcases g_one (y := h) u2 (fun e => u3 (by rw [e]; exact c)) with k | k
      · exact g_mo k (fun c hc => ⟨hc.1.1, hc.2⟩)
      · exact absurd (g_tr c (g_sy hA k)) u3
    exact h3 (g_tr h1 (g_tr k (g_sy hA h2)))
  · rcases g_one (y := h) u1 h1.1.2 with k | k
    · exact h3 (g_mo k (fun c hc => ⟨hc.1.1, hc.2⟩))
    · exact c k
end Q9
