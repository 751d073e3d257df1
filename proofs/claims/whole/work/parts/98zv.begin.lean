/-! ===== the invariant at the start; each call keeps it; the law answers 1 ===== -/
/-- what the constructors leave, as far as it matters -/
def bgM (M : mM) : Prop := (∀ q c, q ≠ 1 → q ≠ 279 → M.2.1 q c = 0) ∧ (M.2.1 1 0 = 0 ∧ M.2.1 1 1 = -1 ∧ M.2.1 279 2 = 0 ∧ M.2.1 279 16 = -1 ∧ M.2.1 279 17 = 0 ∧ M.2.1 279 18 = -2 ∧ M.2.1 279 26 = 0 ∧ M.2.1 279 27 = 0 ∧ M.2.1 279 30 = 0) ∧ (M.2.2.1 286 0 = 326396 ∧ M.2.2.1 286 1 = 243146 ∧ M.2.2.1 286 2 = 11103 ∧ M.2.2.1 286 3 = 365654 ∧ M.2.2.1 286 4 = 90302)
theorem gC_0 {A : Nat → Nat → Prop} {S : Nat → Prop} {a b : Nat} (h : ¬ S a) : ¬ g_C A S a b := fun z => h z.1
theorem bS_0 (i : Nat) : ¬ bS 0 i := fun z => by
  have z : bt 0 i = true := z
  rw [b_0] at z
  cases z
theorem n_ok_0 {X : Nat → Nat → Int32} {a : Nat} {σ : Nat → Int32} (h : ∀ q c, a ≤ q → q ≤ a + 5 → X q c = 0) : n_ok X a σ 0 0 := by
  have no : ∀ p q, ¬ sA σ 0 p q := fun p q ⟨_, _, l, _, h2, _⟩ => by
    rw [b_0] at h2
    cases h2
  have f : ∀ i, ¬ bt 0 i = true := fun i z => by rw [b_0] at z; cases z
  refine ⟨h a 0 (Nat.le_refl _) (by omega), h a 3 (Nat.le_refl _) (by omega), fun p hp q => ?_, ⟨fun p hp i => ?_, fun g hg p hp i => ?_⟩, fun p hp i => ?_, fun l p q hl hb => absurd hb (f l)⟩
  · rw [h (a + 1) p (by omega) (by omega)]
    exact ⟨fun z => absurd z (f q), fun z => absurd z (no p q)⟩
  · rw [h (a + 2) p (by omega) (by omega)]
    exact ⟨fun z => absurd z (f i), fun z => absurd z (gC_0 (bS_0 p))⟩
  · rw [h (a + 4) (g * 8 + p) (by omega) (by omega)]
    exact ⟨fun z => absurd z (f i), fun z => absurd z (gC_0 (fun u => bS_0 p u.1))⟩
  · rw [h (a + 5) p (by omega) (by omega)]
    exact ⟨fun z => absurd z (f i), fun z => absurd z.1 (gC_0 (bS_0 p))⟩
theorem IV_0 (I : Nat → Nat → Int32) (J : Nat → Nat → Int64) (x0 : ∀ q c, q ≠ 1 → q ≠ 279 → I q c = 0) (hi : I 1 0 = 0 ∧ I 1 1 = -1 ∧ I 279 2 = 0 ∧ I 279 16 = -1 ∧ I 279 17 = 0 ∧ I 279 18 = -2 ∧ I 279 26 = 0 ∧ I 279 27 = 0 ∧ I 279 30 = 0) (hj : J 286 0 = 326396 ∧ J 286 1 = 243146 ∧ J 286 2 = 11103 ∧ J 286 3 = 365654 ∧ J 286 4 = 90302) : IV 0 0 (I, J, 0) (I, J) := by
  have s0 : ∀ c, I 289 c = 0 := fun c => x0 289 c (by decide) (by decide)
  have sm0 : sm (I 289) = 0 := by
    unfold sm
    rw [s0 4]
    decide
  have f : ∀ i, ¬ bt 0 i = true := fun i z => by rw [b_0] at z; cases z
  obtain ⟨i1, i2, i3, i4, i5, i6, i7, i8, i9⟩ := hi
  have hW : sW (I 289) 0 := by
    unfold sW
    rw [sm0, s0 0, s0 2, s0 3, s0 4]
    exact ⟨by decide, rfl, by decide, fun i hi => absurd hi (f i), fun i hi => absurd hi (f i), fun l hl => absurd hl (f l), fun l hl => absurd hl (Nat.not_lt_zero _), fun l k a b hl => absurd hl (Nat.not_lt_zero _), fun l hl => absurd hl (Nat.not_lt_zero _)⟩
  have hR : sR I 14 (I 289) 0 0 := by
    unfold sR
    rw [sm0, s0 0, s0 1, s0 2, s0 3, s0 4, s0 5, s0 6, s0 7]
    exact ⟨x0 14 0 (by decide) (by decide), x0 14 1 (by decide) (by decide), x0 14 2 (by decide) (by decide), x0 14 3 (by decide) (by decide), x0 14 4 (by decide) (by decide), x0 14 5 (by decide) (by decide), x0 14 6 (by decide) (by decide), x0 14 7 (by decide) (by decide), x0 14 8 (by decide) (by decide), x0 14 9 (by decide) (by decide), fun l hl => absurd hl (Nat.not_lt_zero _)⟩
  refine ⟨⟨hW, hR⟩, ⟨i5, Or.inl ⟨rfl, i6⟩⟩, ⟨0, 0, 0, by decide, by decide, by decide, x0 19 0 (by decide) (by decide), x0 19 1 (by decide) (by decide), i8, i7, fun j j1 j2 => by omega⟩, ⟨fun s hs => ?_, fun s hs => Or.inr ⟨?_, x0 292 s (by decide) (by decide)⟩⟩, ⟨0, by decide, i1, i3, fun i hi => absurd hi (Nat.not_lt_zero _), i2.trans i4.symm⟩, fun _ => ⟨0, fun l => ?_, ?_, Or.inl (x0 256 2 (by decide) (by decide))⟩, fun _ => ⟨?_, fun q hq hb => ?_⟩, kq_0 i9, hj⟩
  · have hs : bt (I 0 4) s = true := hs
    rw [x0 0 4 (by decide) (by decide)] at hs
    exact absurd hs (f s)
  · show ¬ bt (I 0 4) s = true
    rw [x0 0 4 (by decide) (by decide)]
    exact f s
  · show bt 0 l = true ↔ l < sm (I 289) ∧ _
    rw [sm0]
    exact ⟨fun z => absurd z (f l), fun z => absurd z.1 (Nat.not_lt_zero _)⟩
  · show n_ok I 222 (I 289) (I 289 0) 0
    rw [s0 0]
    exact n_ok_0 (fun q c q1 q2 => x0 q c (by omega) (by omega))
  · show n_ok I 228 (I 289) (I 289 2) (I 289 3)
    rw [s0 2, s0 3]
    exact n_ok_0 (fun q c q1 q2 => x0 q c (by omega) (by omega))
  · have hb : bt (I 234 2) q = true := hb
    rw [x0 234 2 (by decide) (by decide)] at hb
    exact absurd hb (f q)
/-- each call on each: the same answer, and the invariant stays -/
theorem all_steps : m_Step Inv := by
  intro op hop s1 s2 s3 s4 s5 x y hI
  obtain ⟨np, rt, h⟩ := hI
  match op, hop with
  | 0, _ => exact st_feed h
  | 1, _ => exact st_back h
  | 2, _ => exact st_read h
  | 3, _ => exact st_place h
  | 4, _ => exact st_join h
  | 5, _ => exact st_cost h
  | 6, _ => exact st_power h
  | 7, _ => exact st_lay h
  | 8, _ => exact st_learn h
  | 9, _ => exact st_send h
  | 10, _ => exact st_undo h
  | 11, _ => exact st_link h
  | 12, _ => exact st_piece h
  | 13, _ => exact st_block h
  | 14, _ => exact st_cuts h
  | 15, _ => exact st_bridges h
  | 16, _ => exact st_head h
  | 17, _ => exact st_last h
  | 18, _ => exact st_order h
  | 19, _ => exact st_hop h
  | 20, _ => exact st_way h
  | 21, _ => exact st_both h
  | 22, _ => exact st_search h
  | 23, _ => exact st_ear h
  | 24, _ => exact st_would h
  | 25, _ => exact st_loss h
  | 26, _ => exact st_weak h
  | 27, _ => exact st_load h
  | 28, _ => exact st_cheap h
  | 29, _ => exact st_pair h
  | 30, _ => exact st_dear h
  | 31, _ => exact st_grow h
  | 32, _ => exact st_hold h
  | 33, _ => exact st_restore h
  | 34, _ => exact st_count h
  | n + 35, hn => exact absurd hn (by omega)
theorem mSH_len : mSH.length ≤ 600000 ∧ (mSH.map fun sh => sh.2).sum ≤ 7302250 := by decide +kernel
theorem law_gen {fm : Value} {L : Nat} {xs : Nat → Int32} (hfm : fm = .null ∨ fm = .ref (mBIG + 200)) (hL : L ≤ 3072) (M : mM) (h1 : M.1 = mSH) (h2 : M.2.2.2 = mRR 0) (hb : bgM M) : ∃ xf yf, mS fm L xs m_gl pg_L_law 18 [.ref (mBIG + 100), .ref 0, .ref 279, .int (0 : Int32)] [] M (some (xf, yf)) := by
  have e := mk_gen M h1 h2
  obtain ⟨xf, yf, hf⟩ := law_loop (xs := xs) hfm hL all_steps L 0 (M.2.1, M.2.2.1, 0) (M.2.1, M.2.2.1) (by omega) (Nat.zero_le _) ⟨0, 0, IV_0 M.2.1 M.2.2.1 hb.1 hb.2.1 hb.2.2⟩
  rw [← e] at hf
  exact ⟨xf, yf, hf⟩
theorem bg_637 : bgM (mMk 637) := ⟨ints_0, ints_1, longs_1⟩
/-- THE PURE STATEMENT: the small machine's run of the law answers 1 -/
theorem law_true (fm : Value) (hfm : fm = .null ∨ fm = .ref (mBIG + 200)) (L : Nat) (xs : Nat → Int32) (hL : L ≤ 3072) : ∃ (n : Nat) (mem' : mM), m_exec mTT fm L xs n pg_L_law 0 (m_entry [.ref (mBIG + 100)] 4) [] m_mem0 = some (.int 1, mem') ∧ mem'.1.length ≤ 600000 ∧ m_sz mem' ≤ 7302250 := by
  obtain ⟨xf, yf, hf⟩ := law_gen (xs := xs) hfm hL (mMk 637) shapes_ok refs_ok bg_637
  obtain ⟨n, hn⟩ := d_law hf (xf, yf) rfl
  exact ⟨n, mk xf yf, hn, mSH_len.1, mSH_len.2⟩
