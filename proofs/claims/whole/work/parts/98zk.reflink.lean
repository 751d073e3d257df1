/-! ===== the text: the reference's links told ===== -/
section TS
variable {B : Nat → Nat} {b N k t t' c m : Nat} {y y' y0 : mY} {R : Nat × Nat}
/-- a link more in the reference's state -/
def adY (y y1 : mY) (m : Nat) (P Q v : Int32) : Prop := yF (fun q _ => q = 288) y y1 ∧ y1.1 288 4 = nI (m + 1) ∧ y1.1 288 1 = y.1 288 1 ||| ((1 : Int32) <<< (nI m &&& 31)) ∧ (y1.1 288 (8 + m) = P ∧ y1.1 288 (24 + m) = Q ∧ y1.1 288 (40 + m) = v) ∧ ∀ c, c ≠ 1 → c ≠ 4 → c ≠ 8 + m → c ≠ 24 + m → c ≠ 40 + m → y1.1 288 c = y.1 288 c
theorem add_y (hm : m < 16) (h4 : y.1 288 4 = nI m) (P Q v : Int32) : ∃ y1, (if m_in ((8 : Int32) + (y.1 288 4)) 72 = true then (m_let (m_ys y 288 ((8 : Int32) + (y.1 288 4)).toNatClampNeg P) fun y7 => (if m_in ((24 : Int32) + (y.1 288 4)) 72 = true then (m_let (m_ys y7 288 ((24 : Int32) + (y.1 288 4)).toNatClampNeg Q) fun y8 => (if m_in ((40 : Int32) + (y.1 288 4)) 72 = true then (m_let (m_ys y8 288 ((40 : Int32) + (y.1 288 4)).toNatClampNeg v) fun y9 => (m_let (m_ys y9 288 1 ((y9.1 288 1) ||| ((1 : Int32) <<< ((y.1 288 4) &&& 31)))) fun y10 => (m_let (m_ys y10 288 4 ((y10.1 288 4) + (1 : Int32))) fun y11 => (some y11)))) else none)) else none)) else none) = some y1 ∧ adY y y1 m P Q v := by
  rw [h4, a8, a24, a40, if_pos (in_ok (by omega) (by decide)), m_let, if_pos (in_ok (by omega) (by decide)), m_let, if_pos (in_ok (by omega) (by decide)), m_let, m_let, m_let, cl (by omega), cl (by omega), cl (by omega)]
  refine ⟨_, rfl, yF_set (yF_set (yF_set (yF_set (yF_set (yF_rf _ _) rfl) rfl) rfl) rfl) rfl, ?_, ?_, ⟨?_, ?_, ?_⟩, fun c c1 c4 c8 c24 c40 => ?_⟩
  · rw [ys_eq, ys_ec (by decide), ys_ec (by omega), ys_ec (by omega), ys_ec (by omega), h4, nI_1]
  · rw [ys_ec (by decide), ys_eq, ys_ec (by omega), ys_ec (by omega), ys_ec (by omega)]
  · rw [ys_ec (by omega), ys_ec (by omega), ys_ec (by omega), ys_ec (by omega), ys_eq]
  · rw [ys_ec (by omega), ys_ec (by omega), ys_ec (by omega), ys_eq]
  · rw [ys_ec (by omega), ys_ec (by omega), ys_eq]
  · rw [ys_ec c4, ys_ec c1, ys_ec c40, ys_ec c24, ys_ec c8]
/-- the faults after a line -/
def nxW (R F : Nat × Nat) : Nat × Nat := if R.1 = 0 then F else R
theorem nx_f {L : Nat → Nat × Nat} : nxW (ffF L k) (L k) = ffF L (k + 1) := rfl
theorem st_nx {S F : Nat × Nat} (h : stW B b S y) (h0 : R.1 = 0 → S = F ∨ (S.1 = 0 ∧ F.1 = 0)) (h1 : ¬ R.1 = 0 → S = R) : stW B b (nxW R F) y := by
  unfold nxW
  by_cases c0 : R.1 = 0
  · rw [if_pos c0]
    rcases h0 c0 with e | ⟨e1, e2⟩
    · rw [← e]; exact h
    · exact stW_0 h e1 e2
  · rw [if_neg c0, ← h1 c0]
    exact h
theorem rp_0 {c t : Nat} (h : R.1 = 0) : rpW R c t = (c, t) := if_pos h
theorem rp_1 {c t : Nat} (h : ¬ R.1 = 0) : rpW R c t = R := if_neg h
/-- the two names of a line -/
theorem known2_s (hG : ymG B b N y) (h : stW B b R y) (hk : k + 2 < N) (h1 : kdK B b (k + 1) = 1) (h2 : kdK B b (k + 2) = 1) (hR : ¬ R.1 = 0 → R.2 < k) : ∃ y1 y2, f_X11_known (nI (k + 1)) y = some (cdY B b N (k + 1), y1) ∧ f_X11_known (nI (k + 2)) y1 = some (cdY B b N (k + 2), y2) ∧ yF wrW y y2 ∧ ymG B b N y2 ∧ ∃ S, stW B b S y2 ∧ (¬ S.1 = 0 → S.2 < k + 3) ∧ (¬ R.1 = 0 → S = R) ∧ (R.1 = 0 → S = if fpT B b N (k + 1) < N then (if fpT B b N (k + 2) < N then R else (4, k + 2)) else (4, k + 1)) := by
  obtain ⟨y1, e1, f1, s1⟩ := known_s hG h (show k + 1 < N by omega) h1 (fun z => by have := hR z; omega)
  have hG1 := ymG_F hG (yF_mo f1 (fun q c hq => wr_mn hq))
  have b1 : ¬ (if fpT B b N (k + 1) < N then R else rpW R 4 (k + 1)).1 = 0 → (if fpT B b N (k + 1) < N then R else rpW R 4 (k + 1)).2 < k + 2 := by
    by_cases c : fpT B b N (k + 1) < N
    · rw [if_pos c]
      exact fun z => by have := hR z; omega
    · rw [if_neg c]
      exact rp_b (fun z => by have := hR z; omega) (by omega)
  obtain ⟨y2, e2, f2, s2⟩ := known_s hG1 s1 (show k + 2 < N by omega) h2 b1
  have hG2 := ymG_F hG1 (yF_mo f2 (fun q c hq => wr_mn hq))
  refine ⟨y1, y2, e1, e2, yF_tr f1 f2, hG2, _, s2, ?_, ?_, ?_⟩
  · by_cases c : fpT B b N (k + 2) < N
    · rw [if_pos c]
      exact fun z => by have := b1 z; omega
    · rw [if_neg c]
      exact rp_b (fun z => by have := b1 z; omega) (by omega)
  · intro r0
    by_cases c1 : fpT B b N (k + 1) < N
    · rw [if_pos c1]
      by_cases c2 : fpT B b N (k + 2) < N
      · rw [if_pos c2]
      · rw [if_neg c2, rp_1 r0]
    · rw [if_neg c1, rp_1 r0]
      by_cases c2 : fpT B b N (k + 2) < N
      · rw [if_pos c2]
      · rw [if_neg c2, rp_1 r0]
  · intro r0
    by_cases c1 : fpT B b N (k + 1) < N
    · rw [if_pos c1, if_pos c1]
      by_cases c2 : fpT B b N (k + 2) < N
      · rw [if_pos c2, if_pos c2]
      · rw [if_neg c2, if_neg c2, rp_0 r0]
    · rw [if_neg c1, if_neg c1, rp_0 r0]
      by_cases c2 : fpT B b N (k + 2) < N
      · rw [if_pos c2]
      · rw [if_neg c2, rp_1 (show ¬ ((4, k + 1) : Nat × Nat).1 = 0 from (show ¬ (4 = 0) by decide))]
def mlW (q c : Nat) : Prop := (q = 279 ∧ (c = 14 ∨ c = 15)) ∨ q = 288
theorem cd_ne (h : txK (kdK B b) N) (c1 : fpT B b N t < N) (c2 : fpT B b N t' < N) : cdY B b N t = cdY B b N t' ↔ Wd B b t = Wd B b t' := by
  rw [cdY_y c2, cdY_eq h c2]
theorem cd_lt (h : txK (kdK B b) N) : cdY B b N t < 0 ↔ ¬ fpT B b N t < N := by
  by_cases c : fpT B b N t < N
  · have a := iy_8 h c
    rw [cdY_y c]
    exact ⟨fun z => absurd z (nI_pos (by omega)), fun z => absurd c z⟩
  · rw [cdY_n c]
    exact ⟨fun _ => c, fun _ => by decide⟩
/-- the reference's link told -/
theorem mlink_y (hG : ymG B b N y) (h : stW B b R y) (hk : k < N) (c21 : kdK B b k = 21) (hR : ¬ R.1 = 0 → R.2 < k) (hm : m < 16) (h4 : y.1 288 4 = nI m) : ∃ y2 y1, yF wrW y y2 ∧ f_X11_meansLink (nI k) y = some y1 ∧ adY y2 y1 m (cdY B b N (k + 1)) (cdY B b N (k + 2)) (nI (Vd B b (k + 3))) ∧ stW B b (nxW R (lnF (kdK B b) (Wd B b) (Vd B b) N k)) y2 := by
  have g1 := hG.1
  have n4 := g1.1
  have t1 := g1.2.2.1 k hk c21
  obtain ⟨y1, y2, e1, e2, f2, hG2, S, s2, sb, sr, s0⟩ := known2_s hG h (show k + 2 < N by omega) t1.1 t1.2.1 hR
  have lf := lnF_21 (N := N) (W := Wd B b) (V := Vd B b) (Or.inl c21)
  have vb := kd2 t1.2.2.1
  unfold f_X11_meansLink
  rw [nI_1, e1, Option.bind_some]
  dsimp only
  rw [show nI k + (2 : Int32) = nI (k + 2) from nI_add k 2, show nI k + (3 : Int32) = nI (k + 3) from nI_add k 3, e2, Option.bind_some]
  dsimp only
  rw [m_jn]
  dsimp only
  -- from the cost on
  have tail : ∀ (z : mY) (S' : Nat × Nat), yF wrW y z → stW B b S' z → (¬ S'.1 = 0 → S'.2 < k + 3) → ∃ z2 z1, yF wrW y z2 ∧ (if m_in (nI (k + 3)) 403 = true then (m_jn (fun y6 => (if m_in ((8 : Int32) + (y6.1 288 4)) 72 = true then (m_let (m_ys y6 288 ((8 : Int32) + (y6.1 288 4)).toNatClampNeg (cdY B b N (k + 1))) fun y7 => (if m_in ((24 : Int32) + (y6.1 288 4)) 72 = true then (m_let (m_ys y7 288 ((24 : Int32) + (y6.1 288 4)).toNatClampNeg (cdY B b N (k + 2))) fun y8 => (if m_in ((40 : Int32) + (y6.1 288 4)) 72 = true then (m_let (m_ys y8 288 ((40 : Int32) + (y6.1 288 4)).toNatClampNeg (z.1 284 (nI (k + 3)).toNatClampNeg)) fun y9 => (m_let (m_ys y9 288 1 ((y9.1 288 1) ||| ((1 : Int32) <<< ((y6.1 288 4) &&& 31)))) fun y10 => (m_let (m_ys y10 288 4 ((y10.1 288 4) + (1 : Int32))) fun y11 => (some y11)))) else none)) else none)) else none)) (fun j5 => if (f_X11_in (z.1 284 (nI (k + 3)).toNatClampNeg) (1 : Int32) (99 : Int32)) = 0 then ((f_X11_wrong (5 : Int32) (nI (k + 3)) z).bind fun q12 => (j5 q12)) else (j5 z))) else none) = some z1 ∧ adY z2 z1 m (cdY B b N (k + 1)) (cdY B b N (k + 2)) (nI (Vd B b (k + 3))) ∧ stW B b (if 1 ≤ Vd B b (k + 3) ∧ Vd B b (k + 3) ≤ 99 then S' else rpW S' 5 (k + 3)) z2 := by
    intro z S' fz sz bz
    have hGz := ymG_F hG (yF_mo fz (fun q c hq => wr_mn hq))
    have v3 : z.1 284 (k + 3) = nI (Vd B b (k + 3)) := (hGz.2.2.2.1 (k + 3) (by omega)).2.2.2 t1.2.2.1
    rw [if_pos (in_ok (by omega) (by decide)), m_jn, cl (by omega), v3, (cost_v vb).2]
    dsimp only
    have z4 : ∀ w : mY, yF wrW y w → w.1 288 4 = nI m := fun w fw => by rw [fw.1 288 4 (by unfold wrW; omega)]; exact h4
    by_cases cv : 1 ≤ Vd B b (k + 3) ∧ Vd B b (k + 3) ≤ 99
    · rw [if_pos cv, if_neg (by decide), if_pos cv]
      obtain ⟨z1, u1, u2⟩ := add_y hm (z4 z fz) (cdY B b N (k + 1)) (cdY B b N (k + 2)) (nI (Vd B b (k + 3)))
      exact ⟨z, z1, fz, u1, u2, sz⟩
    · rw [if_neg cv, if_pos rfl, if_neg cv]
      obtain ⟨z2, w1, w2, w3⟩ := wrong_s (c := 5) hGz sz (show k + 3 < N by omega) (fun u => Or.inl (bz u)) (by decide) (by decide)
      rw [show f_X11_wrong (5 : Int32) (nI (k + 3)) z = some z2 from w1, Option.bind_some]
      obtain ⟨z1, u1, u2⟩ := add_y hm (z4 z2 (yF_tr fz w2)) (cdY B b N (k + 1)) (cdY B b N (k + 2)) (nI (Vd B b (k + 3)))
      exact ⟨z2, z1, yF_tr fz w2, u1, u2, w3⟩
  -- what comes out, held against the line's fault
  have fin : ∀ (z : mY) (S' : Nat × Nat), yF wrW y z → stW B b S' z → (¬ S'.1 = 0 → S'.2 < k + 3) → (¬ R.1 = 0 → S' = R) → (R.1 = 0 → (¬ S'.1 = 0 ∧ lnF (kdK B b) (Wd B b) (Vd B b) N k = S') ∨ (S'.1 = 0 ∧ lnF (kdK B b) (Wd B b) (Vd B b) N k = if 1 ≤ Vd B b (k + 3) ∧ Vd B b (k + 3) ≤ 99 then (0, 0) else (5, k + 3))) → ∃ y2 y1, yF wrW y y2 ∧ (if m_in (nI (k + 3)) 403 = true then (m_jn (fun y6 => (if m_in ((8 : Int32) + (y6.1 288 4)) 72 = true then (m_let (m_ys y6 288 ((8 : Int32) + (y6.1 288 4)).toNatClampNeg (cdY B b N (k + 1))) fun y7 => (if m_in ((24 : Int32) + (y6.1 288 4)) 72 = true then (m_let (m_ys y7 288 ((24 : Int32) + (y6.1 288 4)).toNatClampNeg (cdY B b N (k + 2))) fun y8 => (if m_in ((40 : Int32) + (y6.1 288 4)) 72 = true then (m_let (m_ys y8 288 ((40 : Int32) + (y6.1 288 4)).toNatClampNeg (z.1 284 (nI (k + 3)).toNatClampNeg)) fun y9 => (m_let (m_ys y9 288 1 ((y9.1 288 1) ||| ((1 : Int32) <<< ((y6.1 288 4) &&& 31)))) fun y10 => (m_let (m_ys y10 288 4 ((y10.1 288 4) + (1 : Int32))) fun y11 => (some y11)))) else none)) else none)) else none)) (fun j5 => if (f_X11_in (z.1 284 (nI (k + 3)).toNatClampNeg) (1 : Int32) (99 : Int32)) = 0 then ((f_X11_wrong (5 : Int32) (nI (k + 3)) z).bind fun q12 => (j5 q12)) else (j5 z))) else none) = some y1 ∧ adY y2 y1 m (cdY B b N (k + 1)) (cdY B b N (k + 2)) (nI (Vd B b (k + 3))) ∧ stW B b (nxW R (lnF (kdK B b) (Wd B b) (Vd B b) N k)) y2 := by
    intro z S' fz sz bz r1 r0
    obtain ⟨z2, z1, u1, u2, u3, u4⟩ := tail z S' fz sz bz
    refine ⟨z2, z1, u1, u2, u3, st_nx u4 (fun c0 => ?_) (fun c0 => ?_)⟩
    · rcases r0 c0 with ⟨q1, q2⟩ | ⟨q1, q2⟩
      · left
        rw [q2, rp_1 q1]
        by_cases cv : 1 ≤ Vd B b (k + 3) ∧ Vd B b (k + 3) ≤ 99
        · rw [if_pos cv]
        · rw [if_neg cv]
      · rw [q2, rp_0 q1]
        by_cases cv : 1 ≤ Vd B b (k + 3) ∧ Vd B b (k + 3) ≤ 99
        · rw [if_pos cv, if_pos cv]
          exact Or.inr ⟨q1, rfl⟩
        · rw [if_neg cv, if_neg cv]
          exact Or.inl rfl
    · have e := r1 c0
      rw [e, rp_1 c0]
      by_cases cv : 1 ≤ Vd B b (k + 3) ∧ Vd B b (k + 3) ≤ 99
      · rw [if_pos cv]
      · rw [if_neg cv]
  have n0 : ∀ p q : Nat, ¬ ((4, p) : Nat × Nat).1 = 0 := fun p q => (show ¬ (4 = 0) by decide)
  by_cases k1 : fpT B b N (k + 1) < N
  · have k1' : fsT (kdK B b) (Wd B b) (Wd B b (k + 1)) N < N := k1
    rw [if_neg (fun z => absurd k1 ((cd_lt g1).mp z))]
    rw [if_pos k1'] at lf
    rw [if_pos k1] at s0
    by_cases k2 : fpT B b N (k + 2) < N
    · have k2' : fsT (kdK B b) (Wd B b) (Wd B b (k + 2)) N < N := k2
      rw [if_neg (fun z => absurd k2 ((cd_lt g1).mp z))]
      rw [if_pos k2', if_neg (by omega)] at lf
      rw [if_pos k2] at s0
      have sR0 : S = R := by
        by_cases c0 : R.1 = 0
        · exact s0 c0
        · exact sr c0
      have told : (Wd B b (k + 1) = Wd B b (k + 2) ∨ lkB (kdK B b) (Wd B b) k k = true) → ∃ z, f_X11_wrong (3 : Int32) (nI (k + 2)) y2 = some z ∧ yF wrW y2 z ∧ stW B b (rpW S 3 (k + 2)) z := fun _ => wrong_s (c := 3) hG2 s2 (show k + 2 < N by omega) (fun z => Or.inl (by rw [sR0] at z ⊢; have := hR z; omega)) (by decide) (by decide)
      have fin3 : (Wd B b (k + 1) = Wd B b (k + 2) ∨ lkB (kdK B b) (Wd B b) k k = true) → ∀ z, yF wrW y2 z → stW B b (rpW S 3 (k + 2)) z → _ := fun d z fz sz => fin z (rpW S 3 (k + 2)) (yF_tr f2 fz) sz (rp_b (fun u => by rw [sR0] at u ⊢; have := hR u; omega) (by omega)) (fun c0 => by rw [sR0, rp_1 c0]) (fun c0 => by
        rw [if_pos d] at lf
        rw [sR0, rp_0 c0]
        exact Or.inl ⟨show ¬ (3 = 0) by decide, lf⟩)
      by_cases e : Wd B b (k + 1) = Wd B b (k + 2)
      · rw [if_pos ((cd_ne g1 k1 k2).mpr e)]
        obtain ⟨z, w1, w2, w3⟩ := told (Or.inl e)
        rw [w1, Option.bind_some]
        exact fin3 (Or.inl e) z w2 w3
      · rw [if_neg (fun z => e ((cd_ne g1 k1 k2).mp z)), cdY_y k1, cdY_y k2, linked_y hG2 (show k ≤ N + 1 by omega) k1 k2, Option.bind_some, ← cdY_y k1, ← cdY_y k2]
        by_cases d : lkB (kdK B b) (Wd B b) k k = true
        · rw [if_pos d, if_neg (by decide)]
          obtain ⟨z, w1, w2, w3⟩ := told (Or.inr d)
          rw [w1, Option.bind_some]
          exact fin3 (Or.inr d) z w2 w3
        · rw [if_neg d, if_pos rfl]
          rw [if_neg (fun z => z.elim e d)] at lf
          exact fin y2 S f2 s2 sb sr (fun c0 => Or.inr ⟨by rw [sR0]; exact c0, lf⟩)
    · have k2' : ¬ fsT (kdK B b) (Wd B b) (Wd B b (k + 2)) N < N := k2
      rw [if_pos ((cd_lt g1).mpr k2)]
      rw [if_neg k2'] at lf
      rw [if_neg k2] at s0
      exact fin y2 S f2 s2 sb sr (fun c0 => Or.inl (by rw [s0 c0]; exact ⟨n0 _ 0, lf⟩))
  · have k1' : ¬ fsT (kdK B b) (Wd B b) (Wd B b (k + 1)) N < N := k1
    rw [if_pos ((cd_lt g1).mpr k1)]
    rw [if_neg k1'] at lf
    rw [if_neg k1] at s0
    exact fin y2 S f2 s2 sb sr (fun c0 => Or.inl (by rw [s0 c0]; exact ⟨n0 _ 0, lf⟩))
end TS
