/-! ===== the reference's ears: all of them ===== -/
section E7
variable {A C Lo : Nat → Nat → Prop} {B : Nat → Prop} {np : Nat}
theorem ea_EI (hb : bC A C B) {I P I' : List Nat} (hE : EI C Lo B I) (h : ea C (g_n B 8) Lo I P I') : EI C (lz Lo P) B I' ∧ uc C Lo + 1 ≤ uc C (lz Lo P) ∧ P.length ≤ 9 := by
  obtain ⟨cB, cn, c8, _⟩ := bC_C hb
  obtain ⟨b1, b2, b3, b4, b5, b6⟩ := id hb
  obtain ⟨i1, i2, i3, i4, i5⟩ := id hE
  obtain ⟨b, s, hfl, hs, hcase⟩ := h
  have hbI := (fl_in I b hfl).1
  have hcs := (i3 b s hs.1).1
  have hbs := cn b s hcs
  have hu := uc_lm c8 i3 hs.1
  have hLJ : ∀ p q, C p q → ¬ p ∈ I → p ≠ s → lm Lo b s p q := fun p q hc hp hps => ⟨i4 p q hc hp, fun z => hp (z.1 ▸ hbI), fun z => hps z.1⟩
  rcases hcase with ⟨a1, rfl, rfl⟩ | ⟨a1, a2, rfl, rfl⟩ | ⟨a1, a2, f, T, a3, a4, rfl, rfl⟩
  · rw [lz_two]
    exact ⟨⟨i1, i2, lm_ok i3 b s, fun p q hc hp => ⟨i4 p q hc hp, fun z => hp (z.1 ▸ hbI), fun z => hp (z.1 ▸ a1)⟩, i5⟩, hu, by simp⟩
  · rw [lz_two]
    refine ⟨⟨nodup_snoc i1 a1, fun p hp => ?_, lm_ok i3 b s, fun p q hc hp => ?_, by simp⟩, hu, by simp⟩
    · rcases List.mem_append.mp hp with z | z
      · exact i2 p z
      · rw [List.mem_singleton.mp z]; exact (cB b s hcs).2.2
    · exact hLJ p q hc (fun z => hp (List.mem_append.mpr (Or.inl z))) (fun z => hp (List.mem_append.mpr (Or.inr (List.mem_singleton.mpr z))))
  · have inv := ep_inv (C := C) (B := B) cB f s T I (lm Lo b s) a3 a4 i1 (fun p hp => Or.inl hp) (fun p hp => hp) i2 hLJ
    rw [lz_cons] at inv
    refine ⟨⟨inv.1, inv.2.1, fun p q h => ⟨(i3 p q h.1).1, (i3 p q h.1).2, h.2.2, h.2.1⟩, inv.2.2.1, by simp⟩, ?_, ?_⟩
    · exact uc_go c8 (fun p q h => (i3 p q h).2) (fun p q h => h.1) hcs hs.1 (fun z => z.2.1 (Or.inl ⟨rfl, rfl⟩)) (fun z => z.2.2 (Or.inl ⟨rfl, rfl⟩))
    · have h8 := nd_8 inv.1 (fun p hp => b4 p (inv.2.1 p hp))
      rw [List.length_append] at h8
      have hI0 : 0 < I.length := List.length_pos_iff.mpr i5
      have e : (s :: T.dropLast).length = T.dropLast.length + 1 := rfl
      have e2 : T.dropLast.length = T.length - 1 := List.length_dropLast
      show T.length + 2 ≤ 9
      omega
theorem ry_enter {y : mY} {J : List Nat} {a : Nat} (ha : a < 8) (hy : ry_Y y B Lo J) : ry_Y (m_ys (m_ys (m_ys y 307 J.length (nI a)) 279 48 (nI (J.length + 1))) 279 49 ((y.1 279 49) ||| ((1 : Int32) <<< (nI a &&& 31)))) B Lo (J ++ [a]) := by
  obtain ⟨y1, y2, y3, y4, y5, y6⟩ := hy
  refine ⟨?_, ?_, ?_, ?_, fun p => ?_, fun i p hi => ?_⟩
  · rw [ys_ec (by decide), ys_ec (by decide), ys_ne (by decide), ys_ne (by decide), ys_ne (by decide), ys_ne (by decide)]; exact y1
  · rw [ys_ec (by decide), ys_ec (by decide), ys_ne (by decide), ys_ec (by decide), ys_ec (by decide), ys_ne (by decide)]; exact y2
  · rw [ys_ec (by decide), ys_ec (by decide), ys_ne (by decide), ys_ec (by decide), ys_ec (by decide), ys_ne (by decide), ys_ne (by decide), ys_ne (by decide), ys_ne (by decide)]; exact y3
  · rw [ys_ec (by decide), ys_eq, List.length_append]; rfl
  · rw [ys_eq, b_or, b_bit (by omega), Bool.or_eq_true, decide_eq_true_eq, y5 p, List.mem_append, List.mem_singleton]
  · rw [ys_ne (by decide), ys_ne (by decide), ys_at]
    rcases app_get hi with z | ⟨z1, z2⟩
    · rw [if_neg (by have := get_lt z; omega)]; exact y6 i p z
    · rw [if_pos z1, z2]
theorem ref_go {σ : Nat → Int32} {I : List Nat} {b s : Nat} {O Gm : Int32} (hW : sW σ np) (hCσ : ∀ p q, C p q ↔ sA σ (σ 3) p q ∧ B p ∧ B q) (hb : bC (sA σ (σ 3)) C B) (hO : ∀ p, bt O p = true ↔ B p) (hGm : ∀ p, bt Gm p = true ↔ gl I b p) (hbI : b ∈ I) (hIB : ∀ p, p ∈ I → B p) (hs8 : s < 8) (hm : g_n B 8 ≠ 2) (E : List (List Nat)) (h16 : E.length < 16) (hE9 : ∀ Q, Q ∈ E → Q.length ≤ 9) : ∀ f at' J (Lo : Nat → Nat → Prop) P (y : mY) n, fa C (fun p => p ∈ I) (gl I b) b s f at' → y.1 289 = σ → (∀ p q, p < 8 → q < 8 → (sA σ (σ 3) p q ↔ bt (y.1 293 (8 + p)) q = true)) → fr_Y y C (fun p => p ∈ I) (gl I b) b s 7 → y.1 279 53 = nI s → ry_Y y B Lo J → ry_E y (E ++ [P]) → y.1 279 46 = nI E.length → J.Nodup → (∀ p, p ∈ J → p ∈ I ∨ ∃ n, f < n ∧ fa C (fun p => p ∈ I) (gl I b) b s n p) → (∀ p, p ∈ J → B p) → P.length ≤ J.length + 1 → f < n → ∃ y' T, f_X11_laysEar_L86 (nI b) O Gm n (nI at') y = some y' ∧ ep C (fun p => p ∈ I) (gl I b) b s f at' T ∧ ry_Y y' B (lz Lo (at' :: T)) (J ++ (at' :: T.dropLast)) ∧ ry_E y' (E ++ [P ++ T]) ∧ yF ee_W y y' ∧ y'.1 279 46 = nI E.length := by
  obtain ⟨cB, cn, c8, _⟩ := bC_C hb
  obtain ⟨b1, b2, b3, b4, b5, b6⟩ := id hb
  have hO8 : b8 O := fun i hi => b4 i ((hO i).mp hi)
  have eO : g_n (bS O) 8 = g_n B 8 := g_n_cong 8 (fun c _ => hO c)
  have hgb := g_n_bound (P := B) 8
  have hb8 := b4 b (hIB b hbI)
  intro f
  induction f with
  | zero => intro at' J Lo P y n hf; exact hf.1.elim
  | succ f ih =>
    intro at' J Lo P y n hf hσ hN hfr h53 hy hE he hnd hJ hJB hPl hn
    have haN : ¬ at' ∈ I := dl_N hf.1
    have haJ : ¬ at' ∈ J := fun z => by
      rcases hJ at' z with k | ⟨m, m1, m2⟩
      · exact haN k
      · have := fa_un m2 hf; omega
    obtain ⟨w0, hw0⟩ := dl_C hf.1
    have haB := (cB at' w0 hw0).2.1
    have ha8 := b4 at' haB
    have hJlen : J.length + 1 ≤ 8 := nd_8 (l := at' :: J) (List.nodup_cons.mpr ⟨haJ, hnd⟩) (fun p hp => by
      rcases List.mem_cons.mp hp with e | e
      · rw [e]; exact ha8
      · exact b4 p (hJB p e))
    have hf7 := fa_7 (h := b) (fun p q h => (c8 p q h).2.1) hbI hb8 hf
    cases n with
    | zero => omega
    | succ n =>
      obtain ⟨y1, y2, y3, y4, y5, y6⟩ := id hy
      rw [f_X11_laysEar_L86, if_pos (h11f (by omega) (fun z => haJ ((y5 at').mp z))), y4, if_pos (in_ok (by omega) (by decide)), cl (by omega), m_let, ys_ne (by decide), y4, m_let, ys_ec (by decide), ys_ne (by decide), m_let, nI_1, bitsOf_ok hO8, Option.bind_some, eO, if_neg (show ¬ nI (g_n B 8) = (2 : Int32) from fun z => hm ((nI_eq (b := 2) (by omega) (by omega)).mp z))]
      have hy11 := ry_enter ha8 hy
      have F11 : yF ee_W y (m_ys (m_ys (m_ys y 307 J.length (nI at')) 279 48 (nI (J.length + 1))) 279 49 ((y.1 279 49) ||| ((1 : Int32) <<< (nI at' &&& 31)))) := yF_set (yF_set (yF_set (yF_rf _ _) (Or.inr ⟨by omega, by omega⟩)) (Or.inl ⟨rfl, by omega⟩)) (Or.inl ⟨rfl, by omega⟩)
      have q308 : (m_ys (m_ys (m_ys y 307 J.length (nI at')) 279 48 (nI (J.length + 1))) 279 49 ((y.1 279 49) ||| ((1 : Int32) <<< (nI at' &&& 31)))).1 308 = y.1 308 := by rw [ys_ne (by decide), ys_ne (by decide), ys_ne (by decide)]
      have q53 : (m_ys (m_ys (m_ys y 307 J.length (nI at')) 279 48 (nI (J.length + 1))) 279 49 ((y.1 279 49) ||| ((1 : Int32) <<< (nI at' &&& 31)))).1 279 53 = nI s := by rw [ys_ec (by decide), ys_ec (by decide), ys_ne (by decide)]; exact h53
      have q46 : (m_ys (m_ys (m_ys y 307 J.length (nI at')) 279 48 (nI (J.length + 1))) 279 49 ((y.1 279 49) ||| ((1 : Int32) <<< (nI at' &&& 31)))).1 279 46 = nI E.length := by rw [ys_ec (by decide), ys_ec (by decide), ys_ne (by decide)]; exact he
      have hE11 : ry_E (m_ys (m_ys (m_ys y 307 J.length (nI at')) 279 48 (nI (J.length + 1))) 279 49 ((y.1 279 49) ||| ((1 : Int32) <<< (nI at' &&& 31)))) (E ++ [P]) := fun j Q hQ => by
        rw [ys_ne (by decide), ys_ne (by decide), ys_ne (by decide), ys_ne (by decide), ys_ne (by decide), ys_ne (by decide)]
        exact hE j Q hQ
      have σ11 := (ee_289 F11).trans hσ
      have hN11 : ∀ p q, p < 8 → q < 8 → (sA σ (σ 3) p q ↔ bt ((m_ys (m_ys (m_ys y 307 J.length (nI at')) 279 48 (nI (J.length + 1))) 279 49 ((y.1 279 49) ||| ((1 : Int32) <<< (nI at' &&& 31)))).1 293 (8 + p)) q = true) := by rw [ee_293 F11]; exact hN
      have hfr11 : fr_Y (m_ys (m_ys (m_ys y 307 J.length (nI at')) 279 48 (nI (J.length + 1))) 279 49 ((y.1 279 49) ||| ((1 : Int32) <<< (nI at' &&& 31)))) C (fun p => p ∈ I) (gl I b) b s 7 := fun p hp => by rw [q308]; exact hfr p hp
      have go := fun (j : Nat) (hj : j < 8) => canGo_ok (A := sA σ (σ 3)) (C := C) (B := B) ha8 hj hb8 hbI _ hN11 hCσ hIB hGm hfr11 q53 hs8 hf hf7
      cases f with
      | zero =>
        obtain ⟨_, g, g1, g2⟩ := hf.1
        obtain ⟨g0, hg0⟩ := lo1_ex (P := fun g => gl I b g ∧ xc C b s at' g) ⟨g1, g2⟩
        have hg8 := (c8 at' g0 hg0.1.2.1).2.2.1
        rw [firstGo _ (fun g => gl I b g ∧ xc C b s at' g) hg0 hg8 (fun j hj => by
          have := go j hj
          rw [if_pos (show 0 + 1 = 1 from rfl)] at this
          exact this)]
        obtain ⟨y', o1, o2, o3, o4, o5, _⟩ := goesTo_ok (np := np) (C := C) (B := B) _ (by rw [σ11]; exact hW) (by rw [σ11]; exact hCσ) hy11 hg0.1.2.1 q46 h16 (by omega) hE9 hE11
        rw [o1, Option.bind_some, if_neg (h11t (by omega) ((hGm g0).mpr hg0.1.1))]
        refine ⟨y', [g0], rfl, ⟨g0, hg0, rfl⟩, ?_, o3, yF_tr F11 o4, o5⟩
        rw [lz_two]; exact o2
      | succ f =>
        obtain ⟨q1, q1c, q1f⟩ := fa_next hf
        obtain ⟨q0, hq0⟩ := lo1_ex (P := fun q => C at' q ∧ fa C (fun p => p ∈ I) (gl I b) b s (f + 1) q) ⟨q1c, q1f⟩
        have hq8 := (c8 at' q0 hq0.1.1).2.2.1
        rw [firstGo _ (fun q => C at' q ∧ fa C (fun p => p ∈ I) (gl I b) b s (f + 1) q) hq0 hq8 (fun j hj => by
          have := go j hj
          rw [if_neg (show ¬ f + 1 + 1 = 1 by omega), show f + 1 + 1 - 1 = f + 1 by omega] at this
          exact this)]
        obtain ⟨y', o1, o2, o3, o4, o5, o6, o7⟩ := goesTo_ok (np := np) (C := C) (B := B) _ (by rw [σ11]; exact hW) (by rw [σ11]; exact hCσ) hy11 hq0.1.1 q46 h16 (by omega) hE9 hE11
        have F' := yF_tr F11 o4
        rw [o1, Option.bind_some, if_pos (h11f (by omega) (fun z => dl_N hq0.1.2.1 ((hGm q0).mp z).1))]
        obtain ⟨y'', T, r1, r2, r3, r4, r5, r6⟩ := ih q0 (J ++ [at']) (lm Lo at' q0) (P ++ [q0]) y' n hq0.1.2 ((ee_289 F').trans hσ) (by rw [ee_293 F']; exact hN) (fun p hp => by rw [o6]; exact hfr11 p hp) (o7.trans q53) o2 o3 o5 (nodup_snoc hnd haJ) (fun p hp => by
          rcases List.mem_append.mp hp with z | z
          · rcases hJ p z with k | ⟨m, m1, m2⟩
            · exact Or.inl k
            · exact Or.inr ⟨m, by omega, m2⟩
          · rw [List.mem_singleton.mp z]; exact Or.inr ⟨f + 2, by omega, hf⟩) (fun p hp => by
          rcases List.mem_append.mp hp with z | z
          · exact hJB p z
          · rw [List.mem_singleton.mp z]; exact haB) (by rw [List.length_append, List.length_append]; simp; omega) (by omega)
        have eJ : J ++ [at'] ++ (q0 :: T.dropLast) = J ++ (at' :: (q0 :: T).dropLast) := by
          rw [dropLast_cons (ep_ne r2), List.append_assoc]; rfl
        have eP : P ++ [q0] ++ T = P ++ (q0 :: T) := by rw [List.append_assoc]; rfl
        rw [eJ, lz_cons] at r3
        rw [eP] at r4
        exact ⟨y'', q0 :: T, r1, ⟨q0, T, hq0, r2, rfl⟩, r3, r4, yF_tr F' r5, r6⟩
theorem laysEar_ok {σ : Nat → Int32} {I : List Nat} {b : Nat} {O : Int32} (hW : sW σ np) (hCσ : ∀ p q, C p q ↔ sA σ (σ 3) p q ∧ B p ∧ B q) (hb : bC (sA σ (σ 3)) C B) (hO : ∀ p, bt O p = true ↔ B p) (E : List (List Nat)) (h16 : E.length < 16) (hE9 : ∀ Q, Q ∈ E → Q.length ≤ 9) (hEI : EI C Lo B I) (y : mY) (hσ : y.1 289 = σ) (hN : ∀ p q, p < 8 → q < 8 → (sA σ (σ 3) p q ↔ bt (y.1 293 (8 + p)) q = true)) (hy : ry_Y y B Lo I) (hE : ry_E y E) (he : y.1 279 46 = nI E.length) (hfl : fl Lo I b) : ∃ y' P I', f_X11_laysEar (nI b) O y = some y' ∧ ea C (g_n B 8) Lo I P I' ∧ ry_Y y' B (lz Lo P) I' ∧ ry_E y' (E ++ [P]) ∧ yF ee_W y y' ∧ y'.1 279 46 = nI E.length := by
  obtain ⟨cB, cn, c8, _⟩ := bC_C hb
  obtain ⟨b1, b2, b3, b4, b5, b6⟩ := id hb
  obtain ⟨i1, i2, i3, i4, i5⟩ := id hEI
  obtain ⟨hbI, q0, hq0⟩ := fl_in I b hfl
  have hbB := i2 b hbI
  have hb8 := b4 b hbB
  obtain ⟨s, hs⟩ := lo1_ex hq0
  have hcs := (i3 b s hs.1).1
  have hs8 := (c8 b s hcs).2.2.1
  have hbs := cn b s hcs
  have hsB := (cB b s hcs).2.2
  have hI8 : I.length ≤ 8 := nd_8 i1 (fun p hp => b4 p (i2 p hp))
  have hI0 : 0 < I.length := List.length_pos_iff.mpr i5
  have hgb := g_n_bound (P := B) 8
  have hO8 : b8 O := fun i hi => b4 i ((hO i).mp hi)
  have eO : g_n (bS O) 8 = g_n B 8 := g_n_cong 8 (fun c _ => hO c)
  unfold f_X11_laysEar
  rw [he, show (10 : Int32) * nI E.length = nI (10 * E.length) from pk_mul 10 _, if_pos (in_ok (by omega) (by decide)), cl (by omega), m_let, ys_ne (by decide), he, if_pos (in_ok h16 (by decide)), cl (by omega), m_let]
  have F2 : yF ee_W y (m_ys (m_ys y 305 (10 * E.length) (nI b)) 306 E.length 1) := yF_set (yF_set (yF_rf _ _) (Or.inr ⟨by omega, by omega⟩)) (Or.inr ⟨by omega, by omega⟩)
  have hy2 : ry_Y (m_ys (m_ys y 305 (10 * E.length) (nI b)) 306 E.length 1) B Lo I := by
    obtain ⟨y1, y2, y3, y4, y5, y6⟩ := hy
    unfold ry_Y
    rw [ys_ne (by decide), ys_ne (by decide), ys_ne (by decide), ys_ne (by decide), ys_ne (by decide), ys_ne (by decide)]
    exact ⟨y1, y2, y3, y4, y5, y6⟩
  have hE2 : ry_E (m_ys (m_ys y 305 (10 * E.length) (nI b)) 306 E.length 1) (E ++ [[b]]) := fun j Q hQ => by
    by_cases hj : j < E.length
    · rw [List.getElem?_append_left hj] at hQ
      have k := hE j Q hQ
      have hQ9 := hE9 Q (List.mem_of_getElem? hQ)
      refine ⟨?_, fun t v ht => ?_⟩
      · rw [ys_ec (by omega), ys_ne (by decide)]; exact k.1
      · have := (List.getElem?_eq_some_iff.mp ht).1
        rw [ys_ne (by decide), ys_ec (by omega)]; exact k.2 t v ht
    · rw [List.getElem?_append_right (by omega)] at hQ
      have hj0 : j - E.length = 0 := by
        refine Classical.byContradiction fun z => ?_
        rw [List.getElem?_eq_none (by simp; omega)] at hQ
        cases hQ
      rw [hj0] at hQ
      have eQ : [b] = Q := by simpa using hQ
      have ej : j = E.length := by omega
      subst eQ
      subst ej
      refine ⟨ys_eq _ _ _ _, fun t v ht => ?_⟩
      have h1 := (List.getElem?_eq_some_iff.mp ht).1
      have ht0 : t = 0 := by simp at h1; omega
      subst ht0
      have ev : b = v := by simpa using ht
      rw [ys_ne (by decide), ← ev]
      exact ys_eq _ _ _ _
  have σ2 := (ee_289 F2).trans hσ
  obtain ⟨S, s1, s2⟩ := freeFrom_ok (np := np) hb8 _ (by rw [σ2]; exact hW) hy2
  have e46 : (m_ys (m_ys y 305 (10 * E.length) (nI b)) 306 E.length 1).1 279 46 = nI E.length := by rw [ys_ne (by decide), ys_ne (by decide)]; exact he
  rw [s1, Option.bind_some, lowestOf_at (m := s) (by omega) ((s2 s).mpr hs.1) (fun i hi h => hs.2 i hi ((s2 i).mp h)), Option.bind_some]
  obtain ⟨y5, o1, o2, o3, o4, o5, _⟩ := goesTo_ok (np := np) (C := C) (B := B) _ (by rw [σ2]; exact hW) (by rw [σ2]; exact hCσ) hy2 hcs e46 h16 (by simp) hE9 hE2
  have F5 := yF_tr F2 o4
  rw [o1, Option.bind_some]
  have eP : [b] ++ [s] = [b, s] := rfl
  rw [eP] at o3
  obtain ⟨z1, z2, z3, z4, z5, z6⟩ := id o2
  by_cases cs0 : s ∈ I
  · rw [if_neg (h11t (by omega) ((z5 s).mpr cs0))]
    exact ⟨y5, [b, s], I, rfl, ⟨b, s, hfl, hs, Or.inl ⟨cs0, rfl, rfl⟩⟩, by rw [lz_two]; exact o2, o3, F5, o5⟩
  · rw [if_pos (h11f (by omega) (fun z => cs0 ((z5 s).mp z))), m_jn]
    have body : ∀ Gm : Int32, (∀ p, bt Gm p = true ↔ gl I b p) → ∃ y' P I', ((f_X11_laysFarFrom (nI b) (nI s) O Gm y5).bind fun q8 => f_X11_laysEar_L86 (nI b) O Gm mF (nI s) q8) = some y' ∧ ea C (g_n B 8) Lo I P I' ∧ ry_Y y' B (lz Lo P) I' ∧ ry_E y' (E ++ [P]) ∧ yF ee_W y y' ∧ y'.1 279 46 = nI E.length := by
      intro Gm hGm
      obtain ⟨y8, f1, f2, f3, f4⟩ := farFrom_ok (A := sA σ (σ 3)) (C := C) (B := B) (s := s) hb8 y5 (by rw [ee_293 F5]; exact hN) (fun p k => b2 p p k rfl) hCσ b4 hO z5 i2 hGm hs8
      rw [f1, Option.bind_some]
      have F8e : yF ee_W y5 y8 := yF_mo f2 (fun q c z => by
        rcases z with z | z
        · exact Or.inr ⟨by omega, by omega⟩
        · exact Or.inl ⟨z.1, by omega⟩)
      have hy8 : ry_Y y8 B (lm Lo b s) I := by
        have q1 : ∀ c, c ≠ 53 → y8.1 279 c = y5.1 279 c := fun c hc => f2.1 279 c (fun z => by rcases z with z | z <;> omega)
        have q2 : y8.1 289 = y5.1 289 := ee_289 F8e
        have q3 : y8.1 307 = y5.1 307 := yF_row f2 (fun c z => by rcases z with z | z <;> omega)
        unfold ry_Y
        rw [q1 51 (by decide), q1 50 (by decide), q1 48 (by decide), q1 49 (by decide), q2, q3]
        exact o2
      have hE8 : ry_E y8 (E ++ [[b, s]]) := by
        have q1 : y8.1 305 = y5.1 305 := yF_row f2 (fun c z => by rcases z with z | z <;> omega)
        have q2 : y8.1 306 = y5.1 306 := yF_row f2 (fun c z => by rcases z with z | z <;> omega)
        unfold ry_E
        rw [q1, q2]
        exact o3
      have e46' : y8.1 279 46 = nI E.length := (f2.1 279 46 (fun z => by rcases z with z | z <;> omega)).trans o5
      have F8 := yF_tr F5 F8e
      by_cases cm : g_n B 8 = 2
      · obtain ⟨w1, w2, w3, w4, w5, w6⟩ := id hy8
        have hI7 : I.length < 8 := by
          have := nd_8 (l := s :: I) (List.nodup_cons.mpr ⟨cs0, i1⟩) (fun p hp => by
            rcases List.mem_cons.mp hp with e | e
            · rw [e]; exact hs8
            · exact b4 p (i2 p e))
          have h2 : (s :: I).length = I.length + 1 := rfl
          omega
        show ∃ y' P I', f_X11_laysEar_L86 (nI b) O Gm (99999 + 1) (nI s) y8 = some y' ∧ _
        rw [f_X11_laysEar_L86, if_pos (h11f (by omega) (fun z => cs0 ((w5 s).mp z))), w4, if_pos (in_ok hI7 (by decide)), cl (by omega), m_let, ys_ne (by decide), w4, m_let, ys_ec (by decide), ys_ne (by decide), m_let, nI_1, bitsOf_ok hO8, Option.bind_some, eO, if_pos (by rw [cm]; rfl)]
        refine ⟨_, [b, s], I ++ [s], rfl, ⟨b, s, hfl, hs, Or.inr (Or.inl ⟨cs0, cm, rfl, rfl⟩)⟩, by rw [lz_two]; exact ry_enter hs8 hy8, fun j Q hQ => ?_, yF_tr F8 (yF_set (yF_set (yF_set (yF_rf _ _) (Or.inr ⟨by omega, by omega⟩)) (Or.inl ⟨rfl, by omega⟩)) (Or.inl ⟨rfl, by omega⟩)), ?_⟩
        · rw [ys_ne (by decide), ys_ne (by decide), ys_ne (by decide), ys_ne (by decide), ys_ne (by decide), ys_ne (by decide)]
          exact hE8 j Q hQ
        · rw [ys_ec (by decide), ys_ec (by decide), ys_ne (by decide)]; exact e46'
      · obtain ⟨w, w1, w2, w3⟩ : ∃ w, B w ∧ w ≠ b ∧ w ≠ s := by
          refine Classical.byContradiction fun hc => cm ?_
          have e := g_n_split (P := B) (Q := fun p => p = b) 8
          have e1 : g_n (fun p => B p ∧ p = b) 8 = 1 := g_n_one 8 b hb8 ⟨hbB, rfl⟩ (fun c _ hc => hc.2)
          have e2 : g_n (fun p => B p ∧ ¬ p = b) 8 = 1 := g_n_one 8 s hs8 ⟨hsB, Ne.symm hbs⟩ (fun c _ hcc => Classical.byContradiction fun z => hc ⟨c, hcc.1, hcc.2, z⟩)
          omega
        obtain ⟨fs, hfs⟩ := ear_far (A := sA σ (σ 3)) (C := C) (B := B) (N := fun p => p ∈ I) (G := gl I b) (b := b) (s := s) b1 b3 b5 w1 w2 w3 hbI i2 cs0 hsB (fun p => Iff.rfl)
        have hfs7 := fa_7 (h := b) (fun p q h => (c8 p q h).2.1) hbI hb8 hfs
        have hmF : 8 < mF := by decide
        obtain ⟨y', T, r1, r2, r3, r4, r5, r6⟩ := ref_go (np := np) hW hCσ hb hO hGm hbI i2 hs8 cm E h16 hE9 fs s I (lm Lo b s) [b, s] y8 mF hfs ((ee_289 F8).trans hσ) (by rw [ee_293 F8]; exact hN) f3 f4 hy8 hE8 e46' i1 (fun p hp => Or.inl hp) i2 (by simp; omega) (by omega)
        rw [lz_cons] at r3
        exact ⟨y', b :: s :: T, I ++ (s :: T.dropLast), r1, ⟨b, s, hfl, hs, Or.inr (Or.inr ⟨cs0, cm, fs, T, hfs, r2, rfl, rfl⟩)⟩, r3, r4, yF_tr F8 r5, r6⟩
    by_cases c1 : I.length = 1
    · rw [if_pos (by rw [z4, c1]; rfl)]
      refine body _ (fun p => ?_)
      rw [z5 p]
      refine ⟨fun h => ⟨h, Or.inr fun q hq => ?_⟩, fun h => h.1⟩
      obtain ⟨w, hw⟩ := List.length_eq_one_iff.mp c1
      rw [hw] at hq hbI
      rw [List.mem_singleton.mp hq, List.mem_singleton.mp hbI]
    · rw [if_neg (show ¬ y5.1 279 48 = (1 : Int32) from fun z => c1 ((nI_eq (b := 1) (by omega) (by omega)).mp (z4.symm.trans z)))]
      refine body _ (fun p => ?_)
      rw [b_wo (by omega), Bool.and_eq_true, z5 p]
      constructor
      · rintro ⟨k1, k2⟩
        exact ⟨k1, Or.inl (fun e => by simp [e] at k2)⟩
      · rintro ⟨k1, k2 | k2⟩
        · exact ⟨k1, by simp [k2]⟩
        · exfalso
          have e1 := nd_len I i1 (fun p hp => b4 p (i2 p hp))
          have e2 : g_n (fun p => p ∈ I) 8 = 1 := g_n_one 8 b hb8 hbI (fun c _ hc => k2 c hc)
          omega
theorem laysEars_1 {I : List Nat} (y : mY) (hW : sW (y.1 289) np) (hy : ry_Y y B Lo I) (hI8 : I.length ≤ 8) (h8 : ∀ p, p ∈ I → p < 8) {c : Nat} (hfl : fl Lo I c) (kk : Int32 → Option mY) : ∃ i, I[i]? = some c ∧ i < 8 ∧ f_X11_laysEars_L145 mF 0 y kk = kk (nI i) := by
  obtain ⟨y1, y2, y3, y4, y5, y6⟩ := id hy
  have ex : ∀ (J : List Nat), fl Lo J c → ∃ i : Nat, J[i]? = some c ∧ (∃ q, Lo c q) ∧ ∀ (k p : Nat), k < i → J[k]? = some p → ∀ q, ¬ Lo p q := by
    intro J
    induction J with
    | nil => intro h; exact h.elim
    | cons a t ih =>
      intro h
      rcases h with ⟨h1, h2⟩ | ⟨h1, h2⟩
      · exact ⟨0, by rw [h2]; rfl, h2 ▸ h1, fun k p hk => by omega⟩
      · obtain ⟨i, i1, i2, i3⟩ := ih h2
        refine ⟨i + 1, by simpa using i1, i2, fun k p hk hp => ?_⟩
        cases k with
        | zero =>
          have : a = p := by simpa using hp
          rw [← this]; exact h1
        | succ k => exact i3 k p (by omega) (by simpa using hp)
  obtain ⟨i, i1, i2, i3⟩ := ex I hfl
  have hi := (List.getElem?_eq_some_iff.mp i1).1
  refine ⟨i, i1, by omega, ?_⟩
  refine lp_up i (fun n j (_ : Unit) => f_X11_laysEars_L145 n j y kk) (fun _ _ => True) (fun o => o = kk (nI i)) ?_ ?_ mF 0 () (Nat.lt_trans (show i < 8 by omega) (by decide)) (by omega) trivial
  · intro n _ _
    show f_X11_laysEars_L145 (n + 1) (nI i) y kk = _
    obtain ⟨S, s1, s2⟩ := freeFrom_ok (np := np) (h8 c (List.mem_of_getElem? i1)) y hW hy
    obtain ⟨q, hq⟩ := i2
    rw [f_X11_laysEars_L145, if_pos (in_ok (by omega) (by decide)), cl (by omega), y6 i c i1, s1, Option.bind_some, if_neg (b_ne0 ((s2 q).mpr hq))]
  · intro n j _ hj _ ih
    show f_X11_laysEars_L145 (n + 1) (nI j) y kk = _
    have hjI : j < I.length := by omega
    have ej := List.getElem?_eq_getElem hjI
    obtain ⟨S, s1, s2⟩ := freeFrom_ok (np := np) (h8 I[j] (List.getElem_mem hjI)) y hW hy
    rw [f_X11_laysEars_L145, if_pos (in_ok (by omega) (by decide)), cl (by omega), y6 j _ ej, s1, Option.bind_some, if_pos (b_eq0 (fun q hq => i3 j _ hj ej q ((s2 q).mp hq))), nI_1]
    exact ih () trivial
theorem laysEars_2 {σ : Nat → Int32} {O : Int32} (hW : sW σ np) (hCσ : ∀ p q, C p q ↔ sA σ (σ 3) p q ∧ B p ∧ B q) (hb : bC (sA σ (σ 3)) C B) (hO : ∀ p, bt O p = true ↔ B p) : ∀ k n M (Lo : Nat → Nat → Prop) I E (y : mY), k < n → k < M → E.length + k = 16 → EI C Lo B I → y.1 289 = σ → (∀ p q, p < 8 → q < 8 → (sA σ (σ 3) p q ↔ bt (y.1 293 (8 + p)) q = true)) → ry_Y y B Lo I → ry_E y E → y.1 279 46 = nI E.length → (∀ Q, Q ∈ E → Q.length ≤ 9) → E.length ≤ uc C Lo → ∃ y' R, f_X11_laysEars_L132 O n y = some y' ∧ er C (g_n B 8) M Lo I E R ∧ ry_E y' R ∧ y'.1 279 46 = nI R.length ∧ (∀ Q, Q ∈ R → Q.length ≤ 9) ∧ R.length ≤ 16 ∧ yF ee_W y y' := by
  obtain ⟨cB, cn, c8, cc⟩ := bC_C hb
  obtain ⟨b1, b2, b3, b4, b5, b6⟩ := id hb
  intro k
  induction k with
  | zero =>
    intro n M Lo I E y hn hM h16 hEI hσ hN hy hE he hE9 hu
    cases n with
    | zero => omega
    | succ n =>
      cases M with
      | zero => omega
      | succ M =>
        have hno : ∀ p q, ¬ Lo p q := fun p q hl => by
          have := uc_lt c8 (fun p q h => (hEI.2.2.1 p q h).2) (hEI.2.2.1 p q hl).1 hl
          omega
        rw [f_X11_laysEars_L132, if_pos]
        · exact ⟨y, E, rfl, Or.inl ⟨hno, rfl⟩, hE, he, hE9, by omega, yF_rf _ _⟩
        · refine b_eq_iff fun l => ⟨hy.2.1 l, fun hl => Classical.byContradiction fun hc => ?_⟩
          obtain ⟨l1, l2, l3⟩ := (hy.1 l).mp hl
          rw [hσ] at l1
          obtain ⟨a, b, ha, hb', hab, e1, e2⟩ := hW.2.2.2.2.2.2.1 l l1
          have h8 := hW.1
          exact hno a b ((hy.2.2.1 a b).mpr ⟨by omega, by omega, l, hl, hc, by rw [hσ]; exact Or.inl ⟨e1, e2⟩⟩)
  | succ k ih =>
    intro n M Lo I E y hn hM h16 hEI hσ hN hy hE he hE9 hu
    cases n with
    | zero => omega
    | succ n =>
      cases M with
      | zero => omega
      | succ M =>
        rw [f_X11_laysEars_L132]
        by_cases c : y.1 279 50 = y.1 279 51
        · rw [if_pos c]
          refine ⟨y, E, rfl, Or.inl ⟨fun p q hl => ?_, rfl⟩, hE, he, hE9, by omega, yF_rf _ _⟩
          obtain ⟨_, _, l, l1, l2, _⟩ := (hy.2.2.1 p q).mp hl
          exact l2 (c ▸ l1)
        · rw [if_neg c]
          have hI8 : I.length ≤ 8 := nd_8 hEI.1 (fun p hp => b4 p (hEI.2.1 p hp))
          obtain ⟨p, q, hl⟩ : ∃ p q, Lo p q := by
            refine Classical.byContradiction fun hc => c (b_eq_iff fun l => ⟨hy.2.1 l, fun hl => Classical.byContradiction fun hcc => hc ?_⟩)
            obtain ⟨l1, l2, l3⟩ := (hy.1 l).mp hl
            rw [hσ] at l1
            obtain ⟨a, b, ha, hb', hab, e1, e2⟩ := hW.2.2.2.2.2.2.1 l l1
            have h8 := hW.1
            exact ⟨a, b, (hy.2.2.1 a b).mpr ⟨by omega, by omega, l, hl, hcc, by rw [hσ]; exact Or.inl ⟨e1, e2⟩⟩⟩
          obtain ⟨b, hfl⟩ := EI_fl cB cc hEI hl
          obtain ⟨i, i1, i2, i3⟩ := laysEars_1 (np := np) y (by rw [hσ]; exact hW) hy hI8 (fun p hp => b4 p (hEI.2.1 p hp)) hfl (fun v11 => (if m_in v11 8 = true then ((f_X11_laysEar (y.1 307 v11.toNatClampNeg) O y).bind fun q12 => (m_let (m_ys q12 279 46 ((q12.1 279 46) + (1 : Int32))) fun y13 => (f_X11_laysEars_L132 O n y13))) else none))
          rw [i3, if_pos (in_ok i2 (by decide)), cl (by omega), hy.2.2.2.2.2 i b i1]
          obtain ⟨y12, P, I', l1, l2, l3, l4, l5, l6⟩ := laysEar_ok (np := np) hW hCσ hb hO E (by omega) hE9 hEI y hσ hN hy hE he hfl
          rw [l1, Option.bind_some, m_let, l6, nI_1]
          have hlen : (E ++ [P]).length = E.length + 1 := by rw [List.length_append]; rfl
          obtain ⟨m1, m2, m3⟩ := ea_EI hb hEI l2
          have F13 : yF ee_W y12 (m_ys y12 279 46 (nI (E.length + 1))) := yF_set (yF_rf _ _) (Or.inl ⟨rfl, by omega⟩)
          obtain ⟨y', R, r1, r2, r3, r4, r5, r6, r7⟩ := ih n M (lz Lo P) I' (E ++ [P]) (m_ys y12 279 46 (nI (E.length + 1))) (by omega) (by omega) (by omega) m1 ((ee_289 F13).trans ((ee_289 l5).trans hσ)) (by rw [ee_293 F13, ee_293 l5]; exact hN) (by
            unfold ry_Y
            rw [ys_ec (by decide), ys_ec (by decide), ys_ec (by decide), ys_ec (by decide), ys_ne (by decide), ys_ne (by decide)]
            exact l3) (fun j Q hQ => by
            rw [ys_ne (by decide), ys_ne (by decide)]
            exact l4 j Q hQ) (by rw [ys_eq, hlen]) (fun Q hQ => by
            rcases List.mem_append.mp hQ with z | z
            · exact hE9 Q z
            · rw [List.mem_singleton.mp z]; exact m3) (by omega)
          exact ⟨y', R, r1, Or.inr ⟨P, I', l2, r2⟩, r3, r4, r5, r6, yF_tr l5 (yF_tr F13 r7)⟩
end E7
