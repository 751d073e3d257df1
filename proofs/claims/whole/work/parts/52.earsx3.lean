/-! ===== the class's ears: all of them, and what at answers ===== -/
section E4
variable {A C Lo : Nat → Nat → Prop} {B : Nat → Prop}
/-- a block with its links -/
def bC (A C : Nat → Nat → Prop) (B : Nat → Prop) : Prop := (∀ a b, A a b → A b a) ∧ (∀ a b, A a b → a ≠ b) ∧ g_T A B ∧ (∀ p, B p → p < 8) ∧ (∀ p q, C p q ↔ A p q ∧ B p ∧ B q) ∧ tc C ≤ 16
theorem bC_C (h : bC A C B) : (∀ p q, C p q → C q p ∧ B p ∧ B q) ∧ (∀ p q, C p q → p ≠ q) ∧ (∀ p q, C p q → C q p ∧ p < 8 ∧ q < 8 ∧ p ≠ q) ∧ ∀ p q, B p → B q → g_C C B p q := by
  obtain ⟨h1, h2, h3, h4, h5, h6⟩ := h
  have a : ∀ p q, C p q → C q p ∧ B p ∧ B q := fun p q k => by
    have k := (h5 p q).mp k
    exact ⟨(h5 q p).mpr ⟨h1 _ _ k.1, k.2.2, k.2.1⟩, k.2⟩
  have b : ∀ p q, C p q → p ≠ q := fun p q k => h2 p q ((h5 p q).mp k).1
  refine ⟨a, b, fun p q k => ⟨(a p q k).1, h4 p (a p q k).2.1, h4 q (a p q k).2.2, b p q k⟩, fun p q hp hq => ?_⟩
  exact g_ind (g_T_conn h3 hp hq) (g_rf hp) (fun c d hc ih e hd => g_st ih ((h5 c d).mpr ⟨e, g_in hc, hd⟩) hd)
theorem lead_ok (hb : bC A C B) {I F : List Nat} {b : Nat} {O : Int32} (hO : ∀ p, bt O p = true ↔ B p) (hE : EI C Lo B I) (x : mX) (hx : cx_X x Lo I F) (hF : F.length ≤ 2 * uc C Lo) (hfl : fl Lo I b) : ∃ x' P I', f_X0_lead O (nI b) x = some x' ∧ ea C (g_n B 8) Lo I P I' ∧ cx_X x' (lz Lo P) I' (F ++ P) ∧ xF ew_W x x' ∧ uc C Lo + P.length ≤ uc C (lz Lo P) + 1 ∧ EI C (lz Lo P) B I' ∧ 2 ≤ P.length := by
  obtain ⟨cB, cn, c8, _⟩ := bC_C hb
  obtain ⟨b1, b2, b3, b4, b5, b6⟩ := id hb
  obtain ⟨i1, i2, i3, i4, i5⟩ := id hE
  obtain ⟨hbI, q0, hq0⟩ := fl_in I b hfl
  have hbB := i2 b hbI
  have hb8 := b4 b hbB
  have hI8 : I.length ≤ 8 := nd_8 i1 (fun p hp => b4 p (i2 p hp))
  have hI0 : 0 < I.length := List.length_pos_iff.mpr i5
  have huc16 : uc C Lo ≤ 16 := Nat.le_trans (uc_le (fun p q h => (i3 p q h).1)) b6
  obtain ⟨s, hs⟩ := lo1_ex hq0
  have hcs := (i3 b s hs.1).1
  have hs8 := (c8 b s hcs).2.2.1
  have hbs := cn b s hcs
  obtain ⟨x1, x2, x3, x4, x5, x6⟩ := id hx
  unfold f_X0_lead
  rw [if_pos (in_ok hb8 (by decide)), cl (by omega), lowest_at hs8 ((x6 b hb8 s).mpr hs.1) (fun i hi h => hs.2 i hi ((x6 b hb8 i).mp h)), Option.bind_some, if_neg (nI_m1 (by omega))]
  obtain ⟨y1, p1, p2, p3, _⟩ := putCell_ok x hx (by omega) b
  rw [p1, Option.bind_some]
  obtain ⟨y2, o1, o2, o3, _⟩ := goOver_ok hb8 hs8 hbs y1 p2 (by rw [List.length_append]; simp; omega)
  rw [o1, Option.bind_some, m_jn]
  have eF : F ++ [b] ++ [s] = F ++ [b, s] := by rw [List.append_assoc]; rfl
  rw [eF] at o2
  have hu := uc_lm c8 i3 hs.1
  have F2 : xF ew_W x y2 := xF_tr p3 o3
  obtain ⟨z1, z2, z3, z4, z5, z6⟩ := id o2
  have body : ∀ Gm : Int32, (∀ p, bt Gm p = true ↔ gl I b p) → ∃ x' P I', m_jn (fun w7 => f_X0_lead_L77 O Gm mF (nI s) w7 0 y2) (fun j6 => if f_X10_has (y2.1 245 7) (nI s) = 0 then j6 1 else j6 0) = some x' ∧ ea C (g_n B 8) Lo I P I' ∧ cx_X x' (lz Lo P) I' (F ++ P) ∧ xF ew_W x x' ∧ uc C Lo + P.length ≤ uc C (lz Lo P) + 1 ∧ EI C (lz Lo P) B I' ∧ 2 ≤ P.length := by
    intro Gm hGm
    rw [m_jn]
    by_cases cs0 : s ∈ I
    · rw [if_neg (h10t (by omega) ((z4 s).mpr cs0))]
      dsimp only
      have stop : f_X0_lead_L77 O Gm mF (nI s) 0 0 y2 = some y2 := by
        show f_X0_lead_L77 O Gm (99999 + 1) (nI s) 0 0 y2 = some y2
        rw [f_X0_lead_L77, if_neg (by decide), if_pos rfl]
      rw [stop]
      refine ⟨y2, [b, s], I, rfl, ⟨b, s, hfl, hs, Or.inl ⟨cs0, rfl, rfl⟩⟩, by rw [lz_two]; exact o2, F2, by rw [lz_two]; show uc C Lo + 2 ≤ _; omega, ?_, by simp⟩
      rw [lz_two]
      refine ⟨i1, i2, lm_ok i3 b s, fun p q hc hp => ⟨i4 p q hc hp, fun z => hp (z.1 ▸ hbI), fun z => hp (z.1 ▸ cs0)⟩, i5⟩
    · rw [if_pos (h10f (by omega) (fun z => cs0 ((z4 s).mp z)))]
      dsimp only
      have hLat : ∀ g, lm Lo b s s g ↔ C s g ∧ g ≠ b := fun g => by
        constructor
        · intro z
          exact ⟨(i3 s g z.1).1, fun e => z.2.2 ⟨rfl, e⟩⟩
        · rintro ⟨w1, w2⟩
          exact ⟨i4 s g w1 cs0, fun z => hbs z.1.symm, fun z => w2 z.2⟩
      have hLJ : ∀ p q, C p q → ¬ p ∈ I → p ≠ s → lm Lo b s p q := fun p q hc hp hps => ⟨i4 p q hc hp, fun z => hp (z.1 ▸ hbI), fun z => hps z.1⟩
      by_cases cm : g_n B 8 = 2
      · have only : ∀ p, B p → p = b ∨ p = s := fun p hp => by
          refine Classical.byContradiction fun hc => ?_
          have e := g_n_split (P := B) (Q := fun p => p = b) 8
          have e1 : g_n (fun p => B p ∧ p = b) 8 = 1 := g_n_one 8 b hb8 ⟨hbB, rfl⟩ (fun c _ hc => hc.2)
          have e2 : 2 ≤ g_n (fun p => B p ∧ ¬ p = b) 8 := g_n_two 8 s p (fun z => hc (Or.inr z.symm)) hs8 (b4 p hp) ⟨(cB b s hcs).2.2, Ne.symm hbs⟩ ⟨hp, fun z => hc (Or.inl z)⟩
          omega
        have hIb : ∀ q, q ∈ I → q = b := fun q hq => (only q (i2 q hq)).resolve_right (fun e => cs0 (e ▸ hq))
        obtain ⟨x8, e1, e2, e3, _⟩ := enter_ok hs8 y2 o2 (by
          have := nd_8 (l := s :: I) (List.nodup_cons.mpr ⟨cs0, i1⟩) (fun p hp => by
            rcases List.mem_cons.mp hp with e | e
            · rw [e]; exact hs8
            · exact b4 p (i2 p e))
          have h2 : (s :: I).length = I.length + 1 := rfl
          omega)
        obtain ⟨w1, w2, w3, w4, w5, w6⟩ := id e2
        obtain ⟨x10, m1, m2, _⟩ := measure_ok (C := C) (B := B) (N := fun p => p ∈ I ∨ p = s) (G := gl I b) (b := b) (s := s) (S := O &&& ((x8.1 245 7) ^^^ (-1 : Int32))) (Gm := Gm) x8 (fun i hi => by
          rw [b_and, Bool.and_eq_true, hO i] at hi
          exact b4 i hi.1) (fun p => by
          rw [b_wos, Bool.and_eq_true, hO p]
          refine and_congr Iff.rfl ?_
          rw [← show p ∈ I ++ [s] ↔ p ∈ I ∨ p = s by rw [List.mem_append, List.mem_singleton], ← w4 p]; simp) hGm (fun p hp => Or.inl hp.1) (Or.inr rfl) cB (fun p hpB hpN q => by
          exact absurd ((only p hpB).elim (fun e => Or.inl (e ▸ hbI)) Or.inr) hpN)
        have q : ∀ k, k ≠ 250 → x10.1 k = x8.1 k := fun k hk => xF_row m2 (fun c z => hk z)
        have hx10 : cx_X x10 (lm Lo b s) (I ++ [s]) (F ++ [b, s]) := ⟨by rw [q 245 (by decide)]; exact w1, by rw [q 246 (by decide)]; exact w2, by rw [q 245 (by decide)]; exact w3, by rw [q 245 (by decide)]; exact w4, by rw [q 249 (by decide)]; exact w5, by rw [q 248 (by decide)]; exact w6⟩
        have nos : ∀ g, ¬ lm Lo b s s g := fun g hg => by
          have k := (hLat g).mp hg
          rcases only g (cB s g k.1).2.2 with e | e
          · exact k.2 e
          · exact cn s g k.1 e.symm
        have e248 : ∀ g, ¬ bt (x10.1 248 s) g = true := fun g hg => nos g ((hx10.2.2.2.2.2 s hs8 g).mp hg)
        have stop : f_X0_lead_L77 O Gm mF (nI s) 1 0 y2 = some x10 := by
          show f_X0_lead_L77 O Gm (99999 + 1) (nI s) 1 0 y2 = some x10
          rw [f_X0_lead_L77, if_neg (by decide), if_neg (by decide), e1, Option.bind_some, m_jn, if_pos rfl, m1, Option.bind_some]
          dsimp only
          rw [if_pos (in_ok hs8 (by decide)), cl (by omega)]
          have elow : f_X10_lowest ((x10.1 248 s) &&& Gm) = some (-1) := by
            rcases lowest_ok ((x10.1 248 s) &&& Gm) with ⟨m, _, k2, _⟩ | ⟨_, k2⟩
            · rw [b_and, Bool.and_eq_true] at k2
              exact absurd k2.1 (e248 m)
            · exact k2
          rw [elow, Option.bind_some, m_jn, if_pos rfl, if_pos (in_ok hs8 (by decide)), nearest_0 x10 (fun g hg => by
            rw [b_and, Bool.and_eq_true, b_and, Bool.and_eq_true] at hg
            exact e248 g hg.1.1), Option.bind_some]
          dsimp only
          rw [if_pos rfl]
        rw [stop]
        refine ⟨x10, [b, s], I ++ [s], rfl, ⟨b, s, hfl, hs, Or.inr (Or.inl ⟨cs0, cm, rfl, rfl⟩)⟩, by rw [lz_two]; exact hx10, xF_tr F2 (xF_tr e3 (xF_mo m2 (fun k c z => Or.inr (Or.inr (Or.inr (Or.inr z)))))), by rw [lz_two]; show uc C Lo + 2 ≤ _; omega, ?_, by simp⟩
        rw [lz_two]
        refine ⟨nodup_snoc i1 cs0, fun p hp => ?_, lm_ok i3 b s, fun p q hc hp => ?_, by simp⟩
        · rcases List.mem_append.mp hp with z | z
          · exact i2 p z
          · rw [List.mem_singleton.mp z]; exact (cB b s hcs).2.2
        · exact hLJ p q hc (fun z => hp (List.mem_append.mpr (Or.inl z))) (fun z => hp (List.mem_append.mpr (Or.inr (List.mem_singleton.mpr z))))
      · obtain ⟨w, w1, w2, w3⟩ : ∃ w, B w ∧ w ≠ b ∧ w ≠ s := by
          refine Classical.byContradiction fun hc => cm ?_
          have e := g_n_split (P := B) (Q := fun p => p = b) 8
          have e1 : g_n (fun p => B p ∧ p = b) 8 = 1 := g_n_one 8 b hb8 ⟨hbB, rfl⟩ (fun c _ hc => hc.2)
          have e2 : g_n (fun p => B p ∧ ¬ p = b) 8 = 1 := g_n_one 8 s hs8 ⟨(cB b s hcs).2.2, Ne.symm hbs⟩ (fun c _ hcc => Classical.byContradiction fun z => hc ⟨c, hcc.1, hcc.2, z⟩)
          omega
        obtain ⟨fs, hfs⟩ := ear_far (A := A) (C := C) (B := B) (N := fun p => p ∈ I) (G := gl I b) (b := b) (s := s) b1 b3 b5 w1 w2 w3 hbI i2 cs0 (cB b s hcs).2.2 (fun p => Iff.rfl)
        have hfs7 := fa_7 (h := b) (fun p q h => (c8 p q h).2.1) hbI hb8 hfs
        have hmF : 8 < mF := by decide
        obtain ⟨x', T, r1, r2, r3, r4, r5⟩ := lead_go (C := C) (B := B) cB cn b4 hO hGm hbI hfs b6 fs s 0 I (lm Lo b s) (F ++ [b, s]) y2 b mF hfs (Nat.le_refl _) (Or.inl ⟨rfl, rfl, fun p => Iff.rfl, rfl⟩) o2 i1 (fun p hp => Or.inl hp) (fun p hp => hp) i2 (lm_ok i3 b s) hLJ hLat (by rw [List.length_append]; simp; omega) hI0 (by omega)
        rw [nI_0] at r1
        rw [r1]
        rw [lz_cons] at r3 r5
        have inv := ep_inv (C := C) (B := B) cB fs s T I (lm Lo b s) hfs r2 i1 (fun p hp => Or.inl hp) (fun p hp => hp) i2 hLJ
        rw [lz_cons] at inv
        have eF2 : F ++ [b, s] ++ T = F ++ (b :: s :: T) := by rw [List.append_assoc]; rfl
        rw [eF2] at r3
        refine ⟨x', b :: s :: T, I ++ (s :: T.dropLast), rfl, ⟨b, s, hfl, hs, Or.inr (Or.inr ⟨cs0, cm, fs, T, hfs, r2, rfl, rfl⟩)⟩, r3, xF_tr F2 r4, ?_, ⟨inv.1, inv.2.1, fun p q h => ?_, inv.2.2.1, by simp⟩, by simp⟩
        · show uc C Lo + (T.length + 2) ≤ _
          omega
        · exact ⟨(i3 p q h.1).1, (i3 p q h.1).2, h.2.2, h.2.1⟩
  by_cases c1 : (y2.1 245 7) = ((1 : Int32) <<< (nI b &&& 31))
  · rw [if_pos c1]
    refine body _ (fun p => ?_)
    rw [z4 p]
    refine ⟨fun h => ⟨h, Or.inr fun q hq => ?_⟩, fun h => h.1⟩
    have := (z4 q).mpr hq
    rw [c1, b_bit (by omega)] at this
    exact of_decide_eq_true this
  · rw [if_neg c1]
    refine body _ (fun p => ?_)
    rw [b_wo (by omega), Bool.and_eq_true, z4 p]
    constructor
    · rintro ⟨k1, k2⟩
      exact ⟨k1, Or.inl (fun e => by simp [e] at k2)⟩
    · rintro ⟨k1, k2 | k2⟩
      · exact ⟨k1, by simp [k2]⟩
      · exact absurd (b_eq_iff fun q => by
          rw [z4 q, b_bit (by omega), decide_eq_true_eq]
          exact ⟨fun h => k2 q h, fun h => h ▸ hbI⟩) c1
/-- the ears so far, as they stand in the class -/
def tx_X (x : mX) (Lo : Nat → Nat → Prop) (I : List Nat) (E : List (List Nat)) : Prop := cx_X x Lo I E.flatten ∧ x.1 245 0 = nI E.length ∧ ∀ j, j < E.length → x.1 247 j = nI (E.take j).flatten.length
def er_W (q c : Nat) : Prop := 245 ≤ q ∧ q ≤ 250
theorem ew_er {q c : Nat} (h : ew_W q c) : er_W q c := by
  rcases h with h | h | h | h | h
  · exact ⟨by omega, by omega⟩
  all_goals exact ⟨by omega, by omega⟩
theorem flat_snoc {E : List (List Nat)} {P : List Nat} : (E ++ [P]).flatten = E.flatten ++ P := by
  rw [List.flatten_append]; simp
theorem take_snoc {E : List (List Nat)} {P : List Nat} {j : Nat} (h : j ≤ E.length) : (E ++ [P]).take j = E.take j := by
  rw [List.take_append_of_le_length h]
theorem trace_2 (hb : bC A C B) {O : Int32} (hO : ∀ p, bt O p = true ↔ B p) : ∀ k e n M (Lo : Nat → Nat → Prop) I E (x : mX), e + k = 16 → E.length = e → k < n → k < M → EI C Lo B I → tx_X x Lo I E → E.flatten.length ≤ 2 * uc C Lo → e ≤ uc C Lo → ∃ x' Lo' I' R, f_X0_trace_L73 O n (nI e) x = some x' ∧ er C (g_n B 8) M Lo I E R ∧ tx_X x' Lo' I' R ∧ xF er_W x x' ∧ R.length ≤ 16 ∧ R.flatten.length ≤ 32 := by
  obtain ⟨cB, cn, c8, cc⟩ := bC_C hb
  obtain ⟨b1, b2, b3, b4, b5, b6⟩ := id hb
  have done : ∀ (Lo : Nat → Nat → Prop) I E (x : mX), EI C Lo B I → tx_X x Lo I E → E.flatten.length ≤ 2 * uc C Lo → E.length ≤ uc C Lo → (∀ c, c ∈ I → ∀ q, ¬ Lo c q) → ∀ M, 0 < M → ∃ x' Lo' I' R, some x = some x' ∧ er C (g_n B 8) M Lo I E R ∧ tx_X x' Lo' I' R ∧ xF er_W x x' ∧ R.length ≤ 16 ∧ R.flatten.length ≤ 32 := by
    intro Lo I E x hE hx hF he hno M hM
    have huc16 : uc C Lo ≤ 16 := Nat.le_trans (uc_le (fun p q h => (hE.2.2.1 p q h).1)) b6
    cases M with
    | zero => omega
    | succ M =>
      refine ⟨x, Lo, I, E, rfl, Or.inl ⟨fun p q h => ?_, rfl⟩, hx, xF_rf _ _, by omega, by omega⟩
      obtain ⟨c, hc⟩ := EI_fl cB cc hE h
      have k := fl_in I c hc
      exact k.2.elim (fun q hq => hno c k.1 q hq)
  intro k
  induction k with
  | zero =>
    intro e n M Lo I E x h1 h2 h3 h4 hE hx hF he
    cases n with
    | zero => omega
    | succ n =>
      rw [f_X0_trace_L73, if_pos (show (16 : Int32) ≤ nI e from (nI_leI (a := 16) (by omega) (by omega)).mpr (by omega))]
      refine done Lo I E x hE hx hF (by omega) (fun c hc q hq => ?_) M (by omega)
      have := uc_lt c8 (fun p q h => (hE.2.2.1 p q h).2) (hE.2.2.1 c q hq).1 hq
      omega
  | succ k ih =>
    intro e n M Lo I E x h1 h2 h3 h4 hE hx hF he
    cases n with
    | zero => omega
    | succ n =>
      cases M with
      | zero => omega
      | succ M =>
        have hI8 : I.length ≤ 8 := nd_8 hE.1 (fun p hp => b4 p (hE.2.1 p hp))
        rw [f_X0_trace_L73, if_neg (k16f (by omega))]
        rcases firstLoose_ok x hx.1 hI8 (fun p hp => b4 p (hE.2.1 p hp)) (fun p q h => (c8 p q (hE.2.2.1 p q h).1).2.2.1) with ⟨c, f1, f2⟩ | ⟨f1, f2⟩
        · have hc8 := b4 c (hE.2.1 c (fl_in I c f1).1)
          rw [f2, Option.bind_some, if_neg (nI_m1 (by omega)), if_pos (in_ok (by omega) (by decide)), cl (by omega), m_let, m_let, nI_1, hx.1.1]
          have hx11 : cx_X (m_xs (m_xs x 247 e (nI E.flatten.length)) 245 0 (nI (e + 1))) Lo I E.flatten := by
            obtain ⟨y1, y2, y3, y4, y5, y6⟩ := hx.1
            refine ⟨?_, fun i k hi => ?_, ?_, ?_, ?_, ?_⟩
            · rw [xs_ec (by decide), xs_ne (by decide)]; exact y1
            · rw [xs_ne (by decide), xs_ne (by decide)]; exact y2 i k hi
            · rw [xs_ec (by decide), xs_ne (by decide)]; exact y3
            · rw [xs_ec (by decide), xs_ne (by decide)]; exact y4
            · intro i p hi; rw [xs_ne (by decide), xs_ne (by decide)]; exact y5 i p hi
            · intro p hp; rw [xs_ne (by decide), xs_ne (by decide)]; exact y6 p hp
          obtain ⟨x', P, I', l1, l2, l3, l4, l5, l6, l7⟩ := lead_ok hb hO hE _ hx11 hF f1
          rw [l1, Option.bind_some]
          have F1 : xF er_W x (m_xs (m_xs x 247 e (nI E.flatten.length)) 245 0 (nI (e + 1))) := xF_set (xF_set (xF_rf _ _) ⟨by omega, by omega⟩) ⟨by omega, by omega⟩
          have hlen : (E ++ [P]).length = e + 1 := by rw [List.length_append, h2]; rfl
          obtain ⟨x'', Lo', I'', R, r1, r2, r3, r4, r5⟩ := ih (e + 1) n M (lz Lo P) I' (E ++ [P]) x' (by omega) hlen (by omega) (by omega) l6 ⟨by rw [flat_snoc]; exact l3, by
            rw [l4.1 245 0 (fun z => by rcases z with z | z | z | z | z <;> omega), xs_eq, hlen], fun j hj => by
            rw [l4.1 247 j (fun z => by rcases z with z | z | z | z | z <;> omega), xs_ne (by decide), xs_at, take_snoc (by omega)]
            by_cases e' : j = e
            · rw [if_pos e', e', ← h2, List.take_length]
            · rw [if_neg e']; exact hx.2.2 j (by omega)⟩ (by rw [flat_snoc, List.length_append]; omega) (by omega)
          exact ⟨x'', Lo', I'', R, r1, Or.inr ⟨P, I', l2, r2⟩, r3, xF_tr F1 (xF_tr (xF_mo l4 (fun _ _ z => ew_er z)) r4), r5⟩
        · rw [f2, Option.bind_some, if_pos rfl]
          exact done Lo I E x hE hx hF (by omega) f1 (M + 1) (by omega)
theorem trace_1 {O : Int32} (hO : ∀ p, bt O p = true ↔ B p) (hC : ∀ p q, C p q ↔ A p q ∧ B p ∧ B q) (x : mX) (hn : ∀ p, p < 8 → ∀ q, bt (x.1 229 p) q = true ↔ A p q) {Q : Option mX → Prop} (kk : mX → Option mX) (hk : ∀ x', xF (fun q _ => q = 248) x x' → (∀ p, p < 8 → ∀ q, bt (x'.1 248 p) q = true ↔ C p q) → Q (kk x')) : Q (f_X0_trace_L23 O mF 0 x kk) := by
  refine lp_up 8 (fun n b s => f_X0_trace_L23 O n b s kk) (fun j s => xF (fun q _ => q = 248) x s ∧ ∀ p, p < j → ∀ q, bt (s.1 248 p) q = true ↔ C p q) Q ?_ ?_ mF 0 x (by decide) (by decide) ⟨xF_rf _ _, fun p hp => by omega⟩
  · intro n s hI
    show Q (f_X0_trace_L23 O (n + 1) (nI 8) s kk)
    rw [f_X0_trace_L23, if_pos (by decide)]
    exact hk s hI.1 hI.2
  · intro n j s hj hI ih
    show Q (f_X0_trace_L23 O (n + 1) (nI j) s kk)
    have e229 : s.1 229 = x.1 229 := xF_row hI.1 (fun c z => by omega)
    rw [f_X0_trace_L23, if_neg (k8f hj), nI_1]
    by_cases c : bt O j = true
    · rw [if_neg (h10t (by omega) c), if_pos (in_ok hj (by decide)), if_pos (in_ok hj (by decide)), cl (by omega), m_let, e229]
      refine ih _ ⟨xF_set hI.1 rfl, fun p hp q => ?_⟩
      rw [xs_at]
      by_cases e : p = j
      · rw [if_pos e, b_and, Bool.and_eq_true, hn j hj q, hO q, hC p q, e]
        exact ⟨fun z => ⟨z.1, (hO j).mp c, z.2⟩, fun z => ⟨z.1, z.2.2⟩⟩
      · rw [if_neg e]; exact hI.2 p (by omega) q
    · rw [if_pos (h10f (by omega) c), if_pos (in_ok hj (by decide)), cl (by omega), m_let]
      refine ih _ ⟨xF_set hI.1 rfl, fun p hp q => ?_⟩
      rw [xs_at]
      by_cases e : p = j
      · rw [if_pos e, b_0, hC p q, e]
        exact ⟨fun z => (by cases z), fun z => absurd ((hO j).mpr z.2.1) c⟩
      · rw [if_neg e]; exact hI.2 p (by omega) q
theorem EI_0 (hb : bC A C B) {h : Nat} (hh : B h) : EI C C B [h] := by
  obtain ⟨cB, _⟩ := bC_C hb
  refine ⟨List.nodup_cons.mpr ⟨by simp, List.nodup_nil⟩, fun p hp => by rw [List.mem_singleton.mp hp]; exact hh, fun p q k => ⟨k, (cB p q k).1⟩, fun p q k _ => k, by simp⟩
theorem trace_ok (hb : bC A C B) {O : Int32} (hO : ∀ p, bt O p = true ↔ B p) {h : Nat} (hh : B h) (x : mX) (hn : ∀ p, p < 8 → ∀ q, bt (x.1 229 p) q = true ↔ A p q) : ∃ x' Lo' I' R, f_X0_trace O (nI h) x = some x' ∧ er C (g_n B 8) 20 C [h] [] R ∧ tx_X x' Lo' I' R ∧ xF er_W x x' ∧ R.length ≤ 16 ∧ R.flatten.length ≤ 32 := by
  have hh8 := hb.2.2.2.1 h hh
  unfold f_X0_trace
  rw [m_let, m_let, m_let, m_let]
  refine trace_1 (A := A) (C := C) (B := B) (Q := fun o => ∃ x' Lo' I' R, o = some x' ∧ er C (g_n B 8) 20 C [h] [] R ∧ tx_X x' Lo' I' R ∧ xF er_W x x' ∧ R.length ≤ 16 ∧ R.flatten.length ≤ 32) hO hb.2.2.2.2.1 _ (by rw [xs_ne (by decide), xs_ne (by decide), xs_ne (by decide), xs_ne (by decide)]; exact hn) _ ?_
  intro x7 F7 h7
  have F4 : xF er_W x (m_xs (m_xs (m_xs (m_xs x 245 0 0) 245 1 0) 245 7 0) 245 6 0) := xF_set (xF_set (xF_set (xF_set (xF_rf _ _) ⟨by omega, by omega⟩) ⟨by omega, by omega⟩) ⟨by omega, by omega⟩) ⟨by omega, by omega⟩
  have q245 : x7.1 245 = (m_xs (m_xs (m_xs (m_xs x 245 0 0) 245 1 0) 245 7 0) 245 6 0).1 245 := xF_row F7 (fun c z => by omega)
  have hx7 : cx_X x7 C [] [] := by
    refine ⟨?_, fun i k hi => (by cases hi), ?_, fun p => ?_, fun i p hi => (by cases hi), h7⟩
    · rw [q245, xs_ec (by decide), xs_ec (by decide), xs_eq]; rfl
    · rw [q245, xs_eq]; rfl
    · rw [q245, xs_ec (by decide), xs_eq, b_0]
      exact ⟨fun z => (by cases z), fun z => (by cases z)⟩
  obtain ⟨x8, e1, e2, e3, _⟩ := enter_ok hh8 x7 hx7 (by simp)
  rw [e1, Option.bind_some]
  have hmF : 20 < mF := by decide
  obtain ⟨x', Lo', I', R, r1, r2, r3, r4, r5⟩ := trace_2 hb hO 16 0 mF 20 C [h] [] x8 rfl rfl (by omega) (by omega) (EI_0 hb hh) ⟨e2, by rw [e3.1 245 0 (fun z => by rcases z with z | z | z | z | z <;> omega), q245, xs_ec (by decide), xs_ec (by decide), xs_ec (by decide), xs_eq]; rfl, fun j hj => by cases hj⟩ (by simp) (by omega)
  exact ⟨x', Lo', I', R, r1, r2, r3, xF_tr F4 (xF_tr (xF_mo F7 (fun q c z => ⟨by omega, by omega⟩)) (xF_tr (xF_mo e3 (fun _ _ z => ew_er z)) r4)), r5⟩
/-! what ear(.., i, k) answers -/
def ear_A (E : List (List Nat)) (i k res : Int32) : Prop := (∃ j P, i = nI j ∧ E[j]? = some P ∧ ((k = -1 ∧ res = nI P.length) ∨ (k ≠ -1 ∧ ((∃ t v, k = nI t ∧ P[t]? = some v ∧ res = nI v) ∨ ((∀ t, t < P.length → k ≠ nI t) ∧ res = -1))))) ∨ ((∀ j, j < E.length → i ≠ nI j) ∧ res = -1)
theorem ear_A_un {E : List (List Nat)} (hE : E.length ≤ 16) (hP : ∀ P, P ∈ E → P.length ≤ 100) {i k res res' : Int32} (h : ear_A E i k res) (h' : ear_A E i k res') : res = res' := by
  rcases h with ⟨j, P, h1, h2, h3⟩ | ⟨h1, h2⟩
  · have hj := (List.getElem?_eq_some_iff.mp h2).1
    rcases h' with ⟨j', P', k1, k2, k3⟩ | ⟨k1, _⟩
    · have hj' := (List.getElem?_eq_some_iff.mp k2).1
      have e := (nI_eq (by omega) (by omega)).mp (h1.symm.trans k1)
      subst e
      rw [h2] at k2
      have e : P = P' := by simpa using k2
      subst e
      have hPl : P.length ≤ 100 := hP P (List.mem_of_getElem? h2)
      rcases h3 with ⟨a1, a2⟩ | ⟨a1, ⟨t, v, a2, a3, a4⟩ | ⟨a2, a3⟩⟩
      · rcases k3 with ⟨b1, b2⟩ | ⟨b1, _⟩
        · rw [a2, b2]
        · exact absurd a1 b1
      · have ht := (List.getElem?_eq_some_iff.mp a3).1
        rcases k3 with ⟨b1, b2⟩ | ⟨b1, ⟨t', v', b2, b3, b4⟩ | ⟨b2, b3⟩⟩
        · exact absurd b1 a1
        · have ht' := (List.getElem?_eq_some_iff.mp b3).1
          have e := (nI_eq (by omega) (by omega)).mp (a2.symm.trans b2)
          subst e
          rw [a3] at b3
          have e : v = v' := by simpa using b3
          rw [a4, b4, e]
        · exact absurd a2 (b2 t ht)
      · rcases k3 with ⟨b1, b2⟩ | ⟨b1, ⟨t', v', b2, b3, b4⟩ | ⟨b2, b3⟩⟩
        · exact absurd b1 a1
        · exact absurd b2 (a2 t' (List.getElem?_eq_some_iff.mp b3).1)
        · rw [a3, b3]
    · exact absurd h1 (k1 j hj)
  · rcases h' with ⟨j', P', k1, k2, k3⟩ | ⟨k1, k2⟩
    · exact absurd k1 (h1 j' (List.getElem?_eq_some_iff.mp k2).1)
    · rw [h2, k2]
theorem fl_take : ∀ (E : List (List Nat)) j P, E[j]? = some P → (E.take (j + 1)).flatten.length = (E.take j).flatten.length + P.length
  | [], j, P, h => by simp at h
  | Q :: E, 0, P, h => by
    have e : Q = P := by simpa using h
    rw [e]; simp
  | Q :: E, j + 1, P, h => by
    have h' : E[j]? = some P := by simpa using h
    have ih := fl_take E j P h'
    show ((Q :: E.take (j + 1)).flatten).length = ((Q :: E.take j).flatten).length + P.length
    rw [List.flatten_cons, List.flatten_cons, List.length_append, List.length_append, ih]
    omega
theorem fl_get : ∀ (E : List (List Nat)) j P t v, E[j]? = some P → P[t]? = some v → E.flatten[(E.take j).flatten.length + t]? = some v
  | [], j, P, t, v, h, _ => by simp at h
  | Q :: E, 0, P, t, v, h, k => by
    have e : Q = P := by simpa using h
    subst e
    have ht := (List.getElem?_eq_some_iff.mp k).1
    show (Q :: E).flatten[0 + t]? = some v
    rw [List.flatten_cons, Nat.zero_add, List.getElem?_append_left ht]
    exact k
  | Q :: E, j + 1, P, t, v, h, k => by
    have h' : E[j]? = some P := by simpa using h
    have ih := fl_get E j P t v h' k
    show (Q :: E).flatten[(Q :: E.take j).flatten.length + t]? = some v
    rw [List.flatten_cons, List.flatten_cons, List.length_append, List.getElem?_append_right (by omega), show Q.length + (E.take j).flatten.length + t - Q.length = (E.take j).flatten.length + t by omega]
    exact ih
theorem take_le : ∀ (E : List (List Nat)) j, (E.take j).flatten.length ≤ E.flatten.length
  | [], _ => by simp
  | Q :: E, 0 => by simp
  | Q :: E, j + 1 => by
    show (Q :: E.take j).flatten.length ≤ (Q :: E).flatten.length
    rw [List.flatten_cons, List.flatten_cons, List.length_append, List.length_append]
    have := take_le E j
    omega
theorem earAt_ok {E : List (List Nat)} {I : List Nat} (x : mX) (hx : tx_X x Lo I E) (h16 : E.length ≤ 16) (h32 : E.flatten.length ≤ 32) (i k : Int32) : ∃ res, f_X0_at i k x = some res ∧ ear_A E i k res := by
  obtain ⟨⟨x1, x2, _⟩, x3, x4⟩ := hx
  unfold f_X0_at
  rw [x3]
  rcases cin_cases i (n := E.length) (by omega) with ⟨j, j1, j2, j3, j4⟩ | ⟨j1, j2 | ⟨j2, j3⟩⟩
  · obtain ⟨P, hP⟩ : ∃ P, E[j]? = some P := ⟨_, List.getElem?_eq_getElem j1⟩
    have ht := fl_take E j P hP
    have hle := take_le E (j + 1)
    rw [if_neg j3, if_neg j4, j2, if_pos (show nI j < (16 : Int32) from (nI_ltI (b := 16) (by omega) (by omega)).mpr (by omega)), m_jn, nI_1, x1]
    have cont : ∃ res, (if m_in (nI j) 17 = true then (if k = (-1 : Int32) then (some (nI (E.take (j + 1)).flatten.length - (x.1 247 (nI j).toNatClampNeg))) else (if k < 0 then (some (-1 : Int32)) else (if (nI (E.take (j + 1)).flatten.length - (x.1 247 (nI j).toNatClampNeg)) ≤ k then (some (-1 : Int32)) else (if m_in (nI j) 17 = true then (if (48 : Int32) ≤ ((x.1 247 (nI j).toNatClampNeg) + k) then (some (-1 : Int32)) else (if m_in (nI j) 17 = true then (if m_in ((x.1 247 (nI j).toNatClampNeg) + k) 48 = true then (some (x.1 246 ((x.1 247 (nI j).toNatClampNeg) + k).toNatClampNeg)) else none) else none)) else none)))) else none) = some res ∧ ear_A E (nI j) k res := by
      rw [if_pos (in_ok (by omega) (by decide)), cl (by omega), x4 j j1, show nI (E.take (j + 1)).flatten.length - nI (E.take j).flatten.length = nI P.length by rw [pk_sub (by omega), ht]; congr 1; omega]
      by_cases ck : k = -1
      · rw [if_pos ck]
        exact ⟨_, rfl, Or.inl ⟨j, P, rfl, hP, Or.inl ⟨ck, rfl⟩⟩⟩
      · rw [if_neg ck]
        rcases cin_cases k (n := P.length) (by omega) with ⟨t, t1, t2, t3, t4⟩ | ⟨t1, t2 | ⟨t2, t3⟩⟩
        · obtain ⟨v, hv⟩ : ∃ v, P[t]? = some v := ⟨_, List.getElem?_eq_getElem t1⟩
          rw [if_neg t3, if_neg t4, if_pos (in_ok (by omega) (by decide)), t2, nI_add, if_neg (show ¬ (48 : Int32) ≤ nI ((E.take j).flatten.length + t) from nI_ge (b := 48) (by omega) (by decide)), if_pos (in_ok (by omega) (by decide)), if_pos (in_ok (by omega) (by decide)), cl (by omega), x2 _ v (fl_get E j P t v hP hv)]
          exact ⟨_, rfl, Or.inl ⟨j, P, rfl, hP, Or.inr ⟨t2 ▸ ck, Or.inl ⟨t, v, rfl, hv, rfl⟩⟩⟩⟩
        · rw [if_pos t2]
          exact ⟨_, rfl, Or.inl ⟨j, P, rfl, hP, Or.inr ⟨ck, Or.inr ⟨t1, rfl⟩⟩⟩⟩
        · rw [if_neg t2, if_pos t3]
          exact ⟨_, rfl, Or.inl ⟨j, P, rfl, hP, Or.inr ⟨ck, Or.inr ⟨t1, rfl⟩⟩⟩⟩
    by_cases c : E.length ≤ j + 1
    · have e : E.take (j + 1) = E := List.take_of_length_le c
      rw [if_pos ((nI_leI (by omega) (by omega)).mpr c)]
      rw [e] at cont
      exact cont
    · rw [if_neg (fun z => c ((nI_leI (by omega) (by omega)).mp z)), if_pos (in_ok (by omega) (by decide)), show (nI (j + 1)).toNatClampNeg = j + 1 from cl (by omega), x4 (j + 1) (by omega)]
      exact cont
  · rw [if_pos j2]
    exact ⟨_, rfl, Or.inr ⟨j1, rfl⟩⟩
  · rw [if_neg j2, if_pos j3]
    exact ⟨_, rfl, Or.inr ⟨j1, rfl⟩⟩
end E4
