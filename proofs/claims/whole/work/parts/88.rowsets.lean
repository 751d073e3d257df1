/-! ===== grow: rows of picks as sets of links ===== -/
section S8
variable {A : Nat → Nat → Prop} {P : Int32} {m N' : Nat} {r t : Nat → Nat}
/-- the code of the link at a place of the list -/
noncomputable def cdo (A : Nat → Nat → Prop) (P : Int32) (i : Nat) : Nat := Classical.epsilon (fun c => c < 64 ∧ ucn A P c ∧ g_n (ucn A P) c = i)
theorem cdo_ok {i : Nat} (h : i < g_n (ucn A P) 64) : cdo A P i < 64 ∧ ucn A P (cdo A P i) ∧ g_n (ucn A P) (cdo A P i) = i := Classical.epsilon_spec (p := fun c => c < 64 ∧ ucn A P c ∧ g_n (ucn A P) c = i) (g_n_sel h)
theorem cdo_at {c : Nat} (hc : c < 64) (hu : ucn A P c) : cdo A P (g_n (ucn A P) c) = c := by
  have h := cdo_ok (A := A) (P := P) (g_n_lt2 hu hc)
  exact g_n_inj h.2.1 hu h.2.2
/-- the links of a row -/
def tSr (A : Nat → Nat → Prop) (P : Int32) (t : Nat → Nat) (m c : Nat) : Prop := ∃ j, j < m ∧ c = cdo A P (t j)
def tyr (A : Nat → Nat → Prop) (P : Int32) (m : Nat) (t : Nat → Nat) : Prop := td (pn A (tSr A P t m) 64) (bS P)
theorem tSr_u (h : ricr m (g_n (ucn A P) 64) t) {c : Nat} (hc : tSr A P t m c) : ucn A P c ∧ c < 64 := by
  obtain ⟨j, j1, rfl⟩ := hc
  have k := cdo_ok (h.1 j j1)
  exact ⟨k.2.1, k.1⟩
theorem tSr_n : g_n (tSr A P t m) 64 ≤ m := g_n_php 64 (fun c j => c = cdo A P (t j)) (fun _ _ _ _ _ h1 h2 => h1.trans h2.symm) m _ (fun _ _ hc => hc)
theorem tyr_n (hN : g_N A (bS P)) (h : tyr A P m t) : nd A (bS P) ≤ m := Nat.le_trans (pl_L hN h) tSr_n
/-- the row of a set -/
noncomputable def srw (A : Nat → Nat → Prop) (P : Int32) (S : Nat → Prop) (j : Nat) : Nat := g_n (ucn A P) (Classical.epsilon (fun c => c < 64 ∧ S c ∧ g_n S c = j))
theorem srw_ok {S : Nat → Prop} {j : Nat} (h : j < g_n S 64) : ∃ c, c < 64 ∧ S c ∧ g_n S c = j ∧ srw A P S j = g_n (ucn A P) c := by
  have k := Classical.epsilon_spec (p := fun c => c < 64 ∧ S c ∧ g_n S c = j) (g_n_sel h)
  exact ⟨_, k.1, k.2.1, k.2.2, rfl⟩
theorem srw_at {S : Nat → Prop} {c : Nat} (hc : c < 64) (hS : S c) : srw A P S (g_n S c) = g_n (ucn A P) c := by
  obtain ⟨d, d1, d2, d3, d4⟩ := srw_ok (A := A) (P := P) (S := S) (g_n_lt2 hS hc)
  rw [d4, g_n_inj d2 hS d3]
theorem srw_ri {S : Nat → Prop} (hS : ∀ c, S c → ucn A P c) : ricr (g_n S 64) (g_n (ucn A P) 64) (srw A P S) := by
  constructor
  · intro j hj
    obtain ⟨d, d1, d2, d3, d4⟩ := srw_ok (A := A) (P := P) (S := S) hj
    rw [d4]
    exact g_n_lt2 (hS d d2) d1
  · intro j hj
    obtain ⟨d, d1, d2, d3, d4⟩ := srw_ok (A := A) (P := P) (S := S) (show j < g_n S 64 by omega)
    obtain ⟨e, e1, e2, e3, e4⟩ := srw_ok (A := A) (P := P) (S := S) hj
    rw [d4, e4]
    refine g_n_lt2 (hS d d2) (Classical.byContradiction fun z => ?_)
    have := g_n_mono (P := S) (show e ≤ d by omega)
    omega
theorem srw_set {S : Nat → Prop} (hS : ∀ c, S c → ucn A P c ∧ c < 64) (c : Nat) : tSr A P (srw A P S) (g_n S 64) c ↔ S c := by
  constructor
  · rintro ⟨j, j1, rfl⟩
    obtain ⟨d, d1, d2, d3, d4⟩ := srw_ok (A := A) (P := P) (S := S) j1
    rw [d4, cdo_at d1 (hS d d2).1]
    exact d2
  · intro h
    have k := hS c h
    exact ⟨g_n S c, g_n_lt2 h k.2, by rw [srw_at k.2 h, cdo_at k.2 k.1]⟩
theorem srw_ties (hN : g_N A (bS P)) {S : Nat → Prop} (h : gS A P S 64) : tyr A P (g_n S 64) (srw A P S) := by
  unfold tyr
  rw [show tSr A P (srw A P S) (g_n S 64) = S from funext fun c => propext (srw_set h.1 c)]
  exact (gS_td hN h).1
theorem ricr_mo (h : ricr m N' r) {i j : Nat} (hij : i ≤ j) (hj : j < m) : r i ≤ r j := by
  have k := ricr_lo h (j - i) i (by omega)
  rw [show i + (j - i) = j by omega] at k
  omega
/-- the first row that ties is the class's -/
theorem first_S (hN : g_N A (bS P)) {S : Nat → Prop} (h : gS A P S 64) (hm : g_n S 64 = m) (hr : ricr m (g_n (ucn A P) 64) r) (ht : tyr A P m r) (hb : ∀ t, ricr m (g_n (ucn A P) 64) t → rbfo m t r → ¬ tyr A P m t) : ∀ j, j < m → r j = srw A P S j := by
  have hs : ricr m (g_n (ucn A P) 64) (srw A P S) := by rw [← hm]; exact srw_ri (fun c hc => (h.1 c hc).1)
  have ht' : tyr A P m (srw A P S) := by rw [← hm]; exact srw_ties hN h
  have hset : ∀ c, S c ↔ ∃ j, j < m ∧ c = cdo A P (srw A P S j) := fun c => by rw [← srw_set h.1 c, hm]; exact Iff.rfl
  refine fun j hj => Classical.byContradiction fun z => ?_
  obtain ⟨d, ⟨d1, d2⟩, d3⟩ := g_min (P := fun j => j < m ∧ r j ≠ srw A P S j) ⟨hj, z⟩
  have same : ∀ i, i < d → r i = srw A P S i := fun i hi => Classical.byContradiction fun y => d3 i hi ⟨by omega, y⟩
  rcases Nat.lt_or_gt_of_ne d2 with lt | gt
  · have kd := cdo_ok (hr.1 d d1)
    have hnd : nd A (bS P) = m := by rw [← hm]; exact ((gS_td hN h).2).symm
    have sc : S (cdo A P (r d)) := by
      refine gd_i (T := tSr A P r m) (i := cdo A P (r d)) hN (ucn_lk 64) (gS_gd h) kd.1 (fun c hc => (tSr_u hr hc).1) (fun c hc => ?_) ⟨d, d1, rfl⟩ ?_
      · rw [hset c]
        constructor
        · rintro ⟨i, i1, rfl⟩
          have ki := cdo_ok (hs.1 i i1)
          have l := g_n_lt2 ki.2.1 hc
          rw [ki.2.2, kd.2.2] at l
          have id : i < d := Classical.byContradiction fun y => by
            have := ricr_mo hs (show d ≤ i by omega) i1
            omega
          exact ⟨i, i1, by rw [same i id]⟩
        · rintro ⟨i, i1, rfl⟩
          have ki := cdo_ok (hr.1 i i1)
          have l := g_n_lt2 ki.2.1 hc
          rw [ki.2.2, kd.2.2] at l
          have id : i < d := Classical.byContradiction fun y => by
            have := ricr_mo hr (show d ≤ i by omega) i1
            omega
          exact ⟨i, i1, by rw [same i id]⟩
      · have z0 : nd (pn A (tSr A P r m) 64) (bS P) = 0 := (nd_Z (pl_N (P := tSr A P r m) hN (ucn_lk 64) (fun c hc => (tSr_u hr hc).1) 64 (Nat.le_refl _))).mpr ht
        have z1 := tSr_n (A := A) (P := P) (t := r) (m := m)
        show nd (pn A (tSr A P r m) 64) (bS P) + _ ≤ _
        omega
    obtain ⟨i, i1, i2⟩ := (hset _).mp sc
    have ki := cdo_ok (hs.1 i i1)
    have e : r d = srw A P S i := by rw [← kd.2.2, ← ki.2.2, ← i2]
    by_cases id : i < d
    · have h1 := same i id
      have h2 := ricr_lo hr (d - i) i (by omega)
      rw [show i + (d - i) = d by omega] at h2
      omega
    · have := ricr_mo hs (show d ≤ i by omega) i1
      omega
  · exact hb _ hs ⟨d, d1, fun i hi => (same i hi).symm, gt⟩ ht'
end S8
