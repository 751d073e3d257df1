/-! ===== grow: the two alike ===== -/
section SB
variable {A : Nat → Nat → Prop} {P L : Int32} {np : Nat}
def gr_W (q c : Nat) : Prop := q = 314 ∨ q = 313 ∨ q = 293 ∨ (q = 279 ∧ c = 62)
theorem m1_lti {i : Nat} (h : i < 2 ^ 31) : (-1 : Int32) < nI i := by
  rw [Int32.lt_iff_toInt_lt, nI_toInt h]
  show (-1 : Int) < _
  omega
theorem in_ltn {n i : Nat} (hn : n < 1000) (hi : i < 2 ^ 31) : f_X11_in (nI i) 0 (nI n - 1) = if i < n then 1 else 0 := by
  unfold f_X11_in
  rw [if_neg (nI_pos hi)]
  by_cases c : n = 0
  · subst c
    rw [show nI 0 - 1 = (-1 : Int32) by decide, if_pos (m1_lti hi), if_neg (by omega)]
  · rw [nI_p (by omega)]
    by_cases c2 : i < n
    · rw [if_neg (nI_nlt (by omega) (by omega)), if_pos c2]
    · rw [if_pos (nI_lt (by omega) hi), if_neg c2]
theorem in_low {p v : Int32} (h : p < 0) : f_X11_in p 0 v = 0 := by
  unfold f_X11_in
  rw [if_pos h]
theorem grow_same (y : mY) (hW : sW (y.1 289) np) (h17 : y.1 279 17 = nI np) (hL : sL (y.1 289) L) (x : mX) (hk : kg x (sA (y.1 289) L) (y.1 289 0)) (p1 : Int32) : ∃ r y', f_X11_grow p1 y = some (r, y') ∧ yF gr_W y y' ∧ (if (x.1 256 0) = (-2 : Int32) then (some ((-2 : Int32), x)) else (if p1 = (-1 : Int32) then (some ((x.1 256 0), x)) else (if p1 < 0 then (some ((-1 : Int32), x)) else (if (x.1 256 0) ≤ p1 then (some ((-1 : Int32), x)) else (if m_in p1 4 = true then (some ((x.1 257 p1.toNatClampNeg), x)) else none))))) = some (r, x) := by
  have hN := (sL_N hW hL).2.1
  obtain ⟨L', y1, l1, e1, w1, n1⟩ := laysNet_ok (w := 0) (by decide) y hW
  have hL' : L' = L := by
    rcases l1 with ⟨_, h⟩ | ⟨h, _⟩
    · exact sL_un h hL
    · cases h
  subst hL'
  rw [f_X11_grow, show (0 : Int32) = nI 0 from nI_0.symm, e1, Option.bind_some, m_let]
  have f1 : yF gr_W y (m_ys y1 279 62 (nI 0)) := yF_set (yF_mo (yF_R w1) (fun q c h => Or.inr (Or.inr (Or.inl h.1)))) (Or.inr (Or.inr (Or.inr ⟨rfl, rfl⟩)))
  have e289 : (m_ys y1 279 62 (nI 0)).1 289 = y.1 289 := by rw [ys_ne (by decide)]; exact w1.1 289 (by decide)
  obtain ⟨y8, g8, e8⟩ := gL13_ok (A := sA (y.1 289) L') (P := y.1 289 0) (np := np) hW.1 (m_ys y1 279 62 (nI 0)) (by rw [ys_ec (by decide), w1.1 279 (by decide)]; exact h17) (by rw [e289]) hW.2.2.2.1 (fun p hp q hq => by
    rw [ys_ne (by decide), ← n1]
    show _ ↔ (p < 8 ∧ q < 8 ∧ bt (y1.1 293 (8 * 0 + p)) q = true)
    rw [show 8 * 0 + p = p by omega]
    exact ⟨fun h => ⟨hp, hq, h⟩, fun h => h.2.2⟩) (fun y8 => (f_X11_grow_L104 mF (nI 0) y8 (fun v10 y11 => (if p1 = (-1 : Int32) then (some (v10, y11)) else (if (f_X11_in p1 (nI 0) (v10 - (1 : Int32))) = nI 0 then (some ((-1 : Int32), y11)) else (if m_in p1 4 = true then (if m_in (y11.1 314 p1.toNatClampNeg) 28 = true then (some ((y11.1 313 (y11.1 314 p1.toNatClampNeg).toNatClampNeg), y11)) else none) else none)))))) (m_ys y1 279 62 (nI 0)) ⟨yF_rf _ _, by rw [ys_eq]; rfl, fun d hd => by omega⟩
  have e8' := e8
  rw [show (0 : Int32) = nI 0 from nI_0.symm] at e8'
  rw [e8']
  have f8 : yF gr_W y y8 := yF_tr f1 (yF_mo g8.1 (fun q c h => h.elim (fun h => Or.inr (Or.inl h)) (fun h => Or.inr (Or.inr (Or.inr h)))))
  have s8 : y8.1 289 = y.1 289 := yF_row f8 (fun c => by unfold gr_W; omega)
  have gy : gry (sA (y.1 289) L') (y.1 289 0) L' np y8 := ⟨by rw [s8]; exact hW, by rw [s8]; exact hL, by rw [s8], by rw [s8], g8.2.1, g8.2.2⟩
  have toW : ∀ {y'}, yF gE_W y8 y' → yF gr_W y y' := fun h => yF_tr f8 (yF_mo h (fun q c h => h.elim Or.inl (fun h => Or.inr (Or.inr (Or.inl h.1)))))
  rcases hk.2 with ⟨k1, S, k2, k3, k4⟩ | ⟨k1, k2⟩
  · have en := (gS_td hN k2).2
    rcases gL104_ok (S := S) y8 gy (fun _ => k2) (fun v10 y11 => (if p1 = (-1 : Int32) then (some (v10, y11)) else (if (f_X11_in p1 (nI 0) (v10 - (1 : Int32))) = nI 0 then (some ((-1 : Int32), y11)) else (if m_in p1 4 = true then (if m_in (y11.1 314 p1.toNatClampNeg) 28 = true then (some ((y11.1 313 (y11.1 314 p1.toNatClampNeg).toNatClampNeg), y11)) else none) else none)))) with ⟨z, _⟩ | ⟨_, y', e', w', r'⟩
    · omega
    rw [show (0 : Int32) = nI 0 from nI_0.symm] at e'
    rw [e', k3, en, if_neg (nI_m2 (by omega))]
    by_cases c1 : p1 = -1
    · rw [if_pos c1, if_pos c1]
      exact ⟨_, y', rfl, toW w', rfl⟩
    rw [if_neg c1, if_neg c1, nI_0]
    by_cases c2 : p1 < 0
    · rw [in_low c2, if_pos rfl, if_pos c2]
      exact ⟨_, y', rfl, toW w', rfl⟩
    · obtain ⟨i, i1, rfl⟩ := nI_of c2
      rw [if_neg c2, in_ltn (by omega) i1]
      by_cases c3 : i < nd (sA (y.1 289) L') (bS (y.1 289 0))
      · obtain ⟨c, d1, d2, d3, d4⟩ := srw_ok (A := sA (y.1 289) L') (P := y.1 289 0) (S := S) (j := i) (by omega)
        have uc := (k2.1 c d2).1
        have l28 := ucn_28 d1 uc
        rw [if_pos c3, if_neg (by decide), if_neg (nI_ge c3 (by omega)), if_pos (in_ok (by omega) (by decide)), if_pos (in_ok (by omega) (by decide)), cl (by omega), r' i c3, d4, if_pos (in_ok l28 (by decide)), cl (by omega), w'.1 313 _ (by unfold gE_W; omega), g8.2.2 c d1 uc, ← d3, k4 c d1 d2]
        exact ⟨_, y', rfl, toW w', rfl⟩
      · rw [if_neg c3, if_pos rfl, if_pos (nI_le (by omega) i1)]
        exact ⟨_, y', rfl, toW w', rfl⟩
  · rcases gL104_ok (S := fun _ => False) y8 gy (fun z => absurd z (by omega)) (fun v10 y11 => (if p1 = (-1 : Int32) then (some (v10, y11)) else (if (f_X11_in p1 (nI 0) (v10 - (1 : Int32))) = nI 0 then (some ((-1 : Int32), y11)) else (if m_in p1 4 = true then (if m_in (y11.1 314 p1.toNatClampNeg) 28 = true then (some ((y11.1 313 (y11.1 314 p1.toNatClampNeg).toNatClampNeg), y11)) else none) else none)))) with ⟨_, y', e', w'⟩ | ⟨z, _⟩
    · rw [show (0 : Int32) = nI 0 from nI_0.symm] at e'
      rw [e', k2, if_pos rfl]
      exact ⟨_, y', rfl, toW w', rfl⟩
    · omega
end SB
