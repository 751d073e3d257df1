/-! ===== a net of one piece (3): how many ends wide cuts have ===== -/
section R1
variable {A : Nat → Nat → Prop} {V : Nat → Prop} {v w x : Nat}
theorem g_n_rows {P : Nat → Nat → Prop} (j : Nat) : g_n (fun c => P (c / 8) (c % 8)) (8 * (j + 1)) = g_n (fun c => P (c / 8) (c % 8)) (8 * j) + g_n (P j) 8 := by
  rw [show 8 * (j + 1) = 8 * j + 8 by omega, g_n_add]
  congr 1
  refine g_n_cong 8 (fun i hi => ?_)
  rw [show (8 * j + i) / 8 = j by omega, show (8 * j + i) % 8 = i by omega]
/-- an end in a part beside a cut -/
theorem part_end (hN : g_N A V) (hc : cn A V) (kv : g_K A V v) {j : Nat} (hj : g_D V v j) : ∃ q i, en A V q i ∧ ∀ w, g_C A (g_D V q) i w → g_C A (g_D V v) j w := by
  obtain ⟨u, u1, u2⟩ := g_first (hc v j kv.1 hj.1) hj.2
  exact leaf_at hN kv ⟨u, g_sy hN.1 u2, u1⟩
theorem priv_n (hN : g_N A V) (hc : cn A V) (m : Nat) (f : Nat → Nat) (P : Nat → Nat → Prop) (hf : ∀ i, i < m → g_K A V (f i)) (hP : ∀ i j, i < m → P i j → g_L A (g_D V (f i)) j ∧ ∀ i', i' < m → i' ≠ i → f i' ≠ f i ∧ ¬ g_C A (g_D V (f i)) j (f i')) : g_n (fun c => P (c / 8) (c % 8)) (8 * m) ≤ sme A V 8 := by
  have hA := hN.1
  rw [sme_eq]
  refine g_n_inj2 (8 * m) (fun c t => P (c / 8) (c % 8) ∧ g_C A (g_D V (f (c / 8))) (c % 8) (t % 8)) ?_ (8 * 8) _ _ ?_
  · rintro c d t hc' hd' ⟨c1, c2⟩ ⟨d1, d2⟩
    have pc := hP _ _ (by omega) c1
    have pd := hP _ _ (by omega) d1
    by_cases e : c / 8 = d / 8
    · rw [← e] at d2 pd
      have := g_L_un hA pc.1 pd.1 (g_tr c2 (g_sy hA d2))
      omega
    · exfalso
      have h1 := pc.2 (d / 8) (by omega) (fun z => e z.symm)
      have h2 := pd.2 (c / 8) (by omega) e
      exact h2.2 (g_tr d2 (near hN hc (hf _ (by omega)).1 (g_in c2).1 (g_in c2).2 h1.1 (fun k => h1.2 (g_tr c2 k))))
  · intro c hc' hp
    have pc := hP _ _ (by omega) hp
    obtain ⟨q, i, h1, h2⟩ := part_end hN hc (hf (c / 8) (by omega)) pc.1.1
    have d := en_dm hN h1
    exact ⟨q * 8 + i, d.1, by rw [d.2.1, d.2.2.1]; exact h1, hp, by rw [d.2.2.1]; exact h2 i (g_rf h1.2.1.1)⟩
theorem away_1 (hN : g_N A V) (v w : Nat) : dw A V v ≤ g_n (fun j => g_L A (g_D V v) j ∧ ¬ g_C A (g_D V v) j w) 8 + 1 := by
  have hA := hN.1
  have s := g_n_split (P := g_L A (g_D V v)) (Q := fun j => g_C A (g_D V v) j w) 8
  have o : g_n (fun j => g_L A (g_D V v) j ∧ g_C A (g_D V v) j w) 8 ≤ 1 := g_n_atmost 8 (fun i j _ _ hi hj => g_L_un hA hi.1 hj.1 (g_tr hi.2 (g_sy hA hj.2)))
  unfold dw
  omega
theorem away_2 (hN : g_N A V) (v w x : Nat) : dw A V v ≤ g_n (fun j => g_L A (g_D V v) j ∧ ¬ g_C A (g_D V v) j w ∧ ¬ g_C A (g_D V v) j x) 8 + 2 := by
  have hA := hN.1
  have h1 := away_1 hN v w
  have s := g_n_split (P := fun j => g_L A (g_D V v) j ∧ ¬ g_C A (g_D V v) j w) (Q := fun j => g_C A (g_D V v) j x) 8
  have o : g_n (fun j => (g_L A (g_D V v) j ∧ ¬ g_C A (g_D V v) j w) ∧ g_C A (g_D V v) j x) 8 ≤ 1 := g_n_atmost 8 (fun i j _ _ hi hj => g_L_un hA hi.1.1 hj.1.1 (g_tr hi.2 (g_sy hA hj.2)))
  have e : g_n (fun j => (g_L A (g_D V v) j ∧ ¬ g_C A (g_D V v) j w) ∧ ¬ g_C A (g_D V v) j x) 8 ≤ g_n (fun j => g_L A (g_D V v) j ∧ ¬ g_C A (g_D V v) j w ∧ ¬ g_C A (g_D V v) j x) 8 := g_n_le 8 (fun j _ h => ⟨h.1.1, h.1.2, h.2⟩)
  omega
theorem away_3 (hN : g_N A V) (v w x : Nat) (h : g_C A (g_D V v) w x) : dw A V v ≤ g_n (fun j => g_L A (g_D V v) j ∧ ¬ g_C A (g_D V v) j w ∧ ¬ g_C A (g_D V v) j x) 8 + 1 := by
  have h1 := away_1 hN v w
  have e : g_n (fun j => g_L A (g_D V v) j ∧ ¬ g_C A (g_D V v) j w) 8 ≤ g_n (fun j => g_L A (g_D V v) j ∧ ¬ g_C A (g_D V v) j w ∧ ¬ g_C A (g_D V v) j x) 8 := g_n_le 8 (fun j _ k => ⟨k.1, k.2, fun z => k.2 (g_tr z (g_sy hN.1 h))⟩)
  omega
def f3 (v w x : Nat) : Nat → Nat
  | 0 => v
  | 1 => w
  | _ + 2 => x
theorem two_wide (hN : g_N A V) (hc : cn A V) (kv : g_K A V v) (kw : g_K A V w) (hvw : v ≠ w) : dw A V v + dw A V w ≤ sme A V 8 + 2 := by
  have h := priv_n hN hc 2 (f3 v w w) (fun i j => g_L A (g_D V (f3 v w w i)) j ∧ ∀ i', i' < 2 → i' ≠ i → ¬ g_C A (g_D V (f3 v w w i)) j (f3 v w w i')) (fun i hi => by
    rcases (by omega : i = 0 ∨ i = 1) with rfl | rfl
    · exact kv
    · exact kw) (fun i j hi hj => ⟨hj.1, fun i' hi' hne => ⟨by
    rcases (by omega : (i = 0 ∧ i' = 1) ∨ (i = 1 ∧ i' = 0)) with ⟨rfl, rfl⟩ | ⟨rfl, rfl⟩
    · exact Ne.symm hvw
    · exact hvw, hj.2 i' hi' hne⟩⟩)
  rw [show 8 * 2 = 8 * (1 + 1) from rfl, g_n_rows (P := fun i j => g_L A (g_D V (f3 v w w i)) j ∧ ∀ i', i' < 2 → i' ≠ i → ¬ g_C A (g_D V (f3 v w w i)) j (f3 v w w i')) 1, show 8 * 1 = 8 * (0 + 1) from rfl, g_n_rows (P := fun i j => g_L A (g_D V (f3 v w w i)) j ∧ ∀ i', i' < 2 → i' ≠ i → ¬ g_C A (g_D V (f3 v w w i)) j (f3 v w w i')) 0] at h
  have a0 : g_n (fun j => g_L A (g_D V v) j ∧ ¬ g_C A (g_D V v) j w) 8 ≤ g_n (fun j => g_L A (g_D V (f3 v w w 0)) j ∧ ∀ i', i' < 2 → i' ≠ 0 → ¬ g_C A (g_D V (f3 v w w 0)) j (f3 v w w i')) 8 := g_n_le 8 (fun j _ k => ⟨k.1, fun i' h1 h2 => by
    rcases (by omega : i' = 1) with rfl
    exact k.2⟩)
  have a1 : g_n (fun j => g_L A (g_D V w) j ∧ ¬ g_C A (g_D V w) j v) 8 ≤ g_n (fun j => g_L A (g_D V (f3 v w w 1)) j ∧ ∀ i', i' < 2 → i' ≠ 1 → ¬ g_C A (g_D V (f3 v w w 1)) j (f3 v w w i')) 8 := g_n_le 8 (fun j _ k => ⟨k.1, fun i' h1 h2 => by
    rcases (by omega : i' = 0) with rfl
    exact k.2⟩)
  have b0 := away_1 hN v w
  have b1 := away_1 hN w v
  omega
theorem three_wide (hN : g_N A V) (hc : cn A V) (kv : g_K A V v) (kw : g_K A V w) (kx : g_K A V x) (hvw : v ≠ w) (hvx : v ≠ x) (hwx : w ≠ x) : dw A V v + dw A V w + dw A V x ≤ sme A V 8 + 4 := by
  have hA := hN.1
  have h := priv_n hN hc 3 (f3 v w x) (fun i j => g_L A (g_D V (f3 v w x i)) j ∧ ∀ i', i' < 3 → i' ≠ i → ¬ g_C A (g_D V (f3 v w x i)) j (f3 v w x i')) (fun i hi => by
    rcases (by omega : i = 0 ∨ i = 1 ∨ i = 2) with rfl | rfl | rfl
    · exact kv
    · exact kw
    · exact kx) (fun i j hi hj => ⟨hj.1, fun i' hi' hne => ⟨by
    rcases (by omega : (i = 0 ∧ i' = 1) ∨ (i = 0 ∧ i' = 2) ∨ (i = 1 ∧ i' = 0) ∨ (i = 1 ∧ i' = 2) ∨ (i = 2 ∧ i' = 0) ∨ (i = 2 ∧ i' = 1)) with ⟨rfl, rfl⟩ | ⟨rfl, rfl⟩ | ⟨rfl, rfl⟩ | ⟨rfl, rfl⟩ | ⟨rfl, rfl⟩ | ⟨rfl, rfl⟩
    · exact Ne.symm hvw
    · exact Ne.symm hvx
    · exact hvw
    · exact Ne.symm hwx
    · exact hvx
    · exact hwx, hj.2 i' hi' hne⟩⟩)
  rw [show 8 * 3 = 8 * (2 + 1) from rfl, g_n_rows (P := fun i j => g_L A (g_D V (f3 v w x i)) j ∧ ∀ i', i' < 3 → i' ≠ i → ¬ g_C A (g_D V (f3 v w x i)) j (f3 v w x i')) 2, show 8 * 2 = 8 * (1 + 1) from rfl, g_n_rows (P := fun i j => g_L A (g_D V (f3 v w x i)) j ∧ ∀ i', i' < 3 → i' ≠ i → ¬ g_C A (g_D V (f3 v w x i)) j (f3 v w x i')) 1, show 8 * 1 = 8 * (0 + 1) from rfl, g_n_rows (P := fun i j => g_L A (g_D V (f3 v w x i)) j ∧ ∀ i', i' < 3 → i' ≠ i → ¬ g_C A (g_D V (f3 v w x i)) j (f3 v w x i')) 0] at h
  have a0 : g_n (fun j => g_L A (g_D V v) j ∧ ¬ g_C A (g_D V v) j w ∧ ¬ g_C A (g_D V v) j x) 8 ≤ g_n (fun j => g_L A (g_D V (f3 v w x 0)) j ∧ ∀ i', i' < 3 → i' ≠ 0 → ¬ g_C A (g_D V (f3 v w x 0)) j (f3 v w x i')) 8 := g_n_le 8 (fun j _ k => ⟨k.1, fun i' h1 h2 => by
    rcases (by omega : i' = 1 ∨ i' = 2) with rfl | rfl
    · exact k.2.1
    · exact k.2.2⟩)
  have a1 : g_n (fun j => g_L A (g_D V w) j ∧ ¬ g_C A (g_D V w) j v ∧ ¬ g_C A (g_D V w) j x) 8 ≤ g_n (fun j => g_L A (g_D V (f3 v w x 1)) j ∧ ∀ i', i' < 3 → i' ≠ 1 → ¬ g_C A (g_D V (f3 v w x 1)) j (f3 v w x i')) 8 := g_n_le 8 (fun j _ k => ⟨k.1, fun i' h1 h2 => by
    rcases (by omega : i' = 0 ∨ i' = 2) with rfl | rfl
    · exact k.2.1
    · exact k.2.2⟩)
  have a2 : g_n (fun j => g_L A (g_D V x) j ∧ ¬ g_C A (g_D V x) j v ∧ ¬ g_C A (g_D V x) j w) 8 ≤ g_n (fun j => g_L A (g_D V (f3 v w x 2)) j ∧ ∀ i', i' < 3 → i' ≠ 2 → ¬ g_C A (g_D V (f3 v w x 2)) j (f3 v w x i')) 8 := g_n_le 8 (fun j _ k => ⟨k.1, fun i' h1 h2 => by
    rcases (by omega : i' = 0 ∨ i' = 1) with rfl | rfl
    · exact k.2.1
    · exact k.2.2⟩)
  have b0 := away_2 hN v w x
  have b1 := away_2 hN w v x
  have b2 := away_2 hN x v w
  have c0 := away_3 hN v w x
  have c1 := away_3 hN w v x
  have c2 := away_3 hN x v w
  by_cases s0 : g_C A (g_D V v) w x
  · have := c0 s0
    by_cases s1 : g_C A (g_D V w) v x
    · have := c1 s1
      omega
    · have t : g_C A (g_D V x) v w := near hN hc kw.1 kv.1 hvw (Ne.symm hwx) s1
      have := c2 t
      omega
  · have t1 : g_C A (g_D V x) w v := near hN hc kv.1 kw.1 (Ne.symm hvw) (Ne.symm hvx) s0
    have t2 : g_C A (g_D V w) x v := near hN hc kv.1 kx.1 (Ne.symm hvx) (Ne.symm hvw) (fun k => s0 (g_sy hA k))
    have := c2 (g_sy hA t1)
    have := c1 (g_sy hA t2)
    omega
end R1
