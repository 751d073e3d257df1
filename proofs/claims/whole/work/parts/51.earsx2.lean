/-! ===== the class's ears: leading one, all of them ===== -/
section E3
variable {A C Lo : Nat → Nat → Prop} {B : Nat → Prop}
theorem nearest_at {N G : Nat → Prop} {b s k q0 : Nat} {S : Int32} (x : mX) (hx : fr_X x C N G b s) (hk : k ≤ 8) (hk0 : 0 < k) (hq0 : q0 < 8) (hS : bt S q0 = true) (hf : x.1 250 q0 = nI k) (hmin : ∀ q n, bt S q = true → fa C N G b s n q → k ≤ n ∧ (q < q0 → k < n)) : f_X0_nearest S x = some (nI q0) := by
  unfold f_X0_nearest
  refine lp_up 8 (fun n j (a : Int32) => f_X0_nearest_L4 S n a j x) (fun j a => (j ≤ q0 ∧ (a = -1 ∨ ∃ q n, a = nI q ∧ q < 8 ∧ x.1 250 q = nI n ∧ k < n ∧ n ≤ 8)) ∨ (q0 < j ∧ a = nI q0)) (fun o => o = some (nI q0)) ?_ ?_ mF 0 (-1) (by decide) (by decide) (Or.inl ⟨by omega, Or.inl rfl⟩)
  · intro n a hI
    show f_X0_nearest_L4 S (n + 1) a (nI 8) x = _
    rw [f_X0_nearest_L4, if_pos (by decide)]
    rcases hI with z | z
    · omega
    · rw [z.2]
  · intro n j a hj hI ih
    show f_X0_nearest_L4 S (n + 1) a (nI j) x = _
    rw [f_X0_nearest_L4, if_neg (k8f hj), nI_1]
    by_cases c1 : bt S j = true
    · rw [if_neg (h10t (by omega) c1), if_pos (in_ok hj (by decide)), cl (by omega)]
      rcases hx j hj with ⟨m, m1, m2, m3⟩ | ⟨m1, m2⟩
      · have hm0 := fa_pos m2
        have hmn := hmin j m c1 m2
        rw [m3, if_neg (nI_nle hm0 (by omega))]
        by_cases e : j = q0
        · subst e
          have ekm : m = k := (nI_eq (by omega) (by omega)).mp (m3.symm.trans hf)
          rcases hI with ⟨_, ha | ⟨q, w, q1, q2, q3, q4, q5⟩⟩ | z
          · rw [if_pos ha]
            exact ih _ (Or.inr ⟨by omega, rfl⟩)
          · rw [q1, if_neg (nI_m1 (by omega)), if_pos (in_ok hj (by decide)), if_pos (in_ok q2 (by decide)), cl (by omega), q3, if_neg (fun z => by have := (nI_leI (by omega) (by omega)).mp z; omega)]
            exact ih _ (Or.inr ⟨by omega, rfl⟩)
          · omega
        · rcases hI with ⟨z0, ha | ⟨q, w, q1, q2, q3, q4, q5⟩⟩ | ⟨z1, z2⟩
          · rw [if_pos ha]
            exact ih _ (Or.inl ⟨by omega, Or.inr ⟨j, m, rfl, hj, m3, hmn.2 (by omega), m1⟩⟩)
          · rw [q1, if_neg (nI_m1 (by omega)), if_pos (in_ok hj (by decide)), if_pos (in_ok q2 (by decide)), cl (by omega), q3]
            by_cases c2 : w ≤ m
            · rw [if_pos ((nI_leI (by omega) (by omega)).mpr c2)]
              exact ih _ (Or.inl ⟨by omega, Or.inr ⟨q, w, rfl, q2, q3, q4, q5⟩⟩)
            · rw [if_neg (fun z => c2 ((nI_leI (by omega) (by omega)).mp z))]
              exact ih _ (Or.inl ⟨by omega, Or.inr ⟨j, m, rfl, hj, m3, hmn.2 (by omega), m1⟩⟩)
          · rw [z2, if_neg (nI_m1 (by omega)), if_pos (in_ok hj (by decide)), if_pos (in_ok hq0 (by decide)), cl (by omega), hf, if_pos ((nI_leI (by omega) (by omega)).mpr hmn.1)]
            exact ih _ (Or.inr ⟨by omega, rfl⟩)
      · rw [m2, if_pos (by decide)]
        refine ih a ?_
        rcases hI with ⟨z0, z1⟩ | z
        · have : j ≠ q0 := fun e => by
            subst e
            have := nI_ne0 hk0 (show k < 2 ^ 31 by omega)
            exact this (hf.symm.trans m2)
          exact Or.inl ⟨by omega, z1⟩
        · exact Or.inr ⟨by omega, z.2⟩
    · rw [if_pos (h10f (by omega) c1)]
      refine ih a ?_
      rcases hI with ⟨z0, z1⟩ | z
      · have : j ≠ q0 := fun e => c1 (e ▸ hS)
        exact Or.inl ⟨by omega, z1⟩
      · exact Or.inr ⟨by omega, z.2⟩
theorem nearest_0 {S : Int32} (x : mX) (h : ∀ q, ¬ bt S q = true) : f_X0_nearest S x = some (-1) := by
  unfold f_X0_nearest
  refine lp_up 8 (fun n j (_ : Unit) => f_X0_nearest_L4 S n (-1) j x) (fun _ _ => True) (fun o => o = some (-1)) ?_ ?_ mF 0 () (by decide) (by decide) trivial
  · intro n _ _
    show f_X0_nearest_L4 S (n + 1) (-1) (nI 8) x = _
    rw [f_X0_nearest_L4, if_pos (by decide)]
  · intro n j _ hj _ ih
    show f_X0_nearest_L4 S (n + 1) (-1) (nI j) x = _
    rw [f_X0_nearest_L4, if_neg (k8f hj), nI_1, if_pos (h10f (by omega) (h j))]
    exact ih () trivial
theorem nd_len : ∀ l : List Nat, l.Nodup → (∀ p, p ∈ l → p < 8) → l.length = g_n (fun p => p ∈ l) 8
  | [], _, _ => by
    rw [g_n_zero 8 (fun c _ h => by cases h)]; rfl
  | a :: t, h, h8 => by
    have hn := List.nodup_cons.mp h
    have e := g_n_split (P := fun p => p ∈ a :: t) (Q := fun p => p = a) 8
    have e1 : g_n (fun p => p ∈ a :: t ∧ p = a) 8 = 1 := g_n_one 8 a (h8 a (List.mem_cons_self ..)) ⟨List.mem_cons_self .., rfl⟩ (fun c _ hc => hc.2)
    have e2 : g_n (fun p => p ∈ a :: t ∧ ¬ p = a) 8 = g_n (fun p => p ∈ t) 8 := g_n_cong 8 (fun c _ => ⟨fun z => (List.mem_cons.mp z.1).resolve_left z.2, fun z => ⟨List.mem_cons_of_mem _ z, fun e => hn.1 (e ▸ z)⟩⟩)
    have e3 := nd_len t hn.2 (fun p hp => h8 p (List.mem_cons_of_mem _ hp))
    show t.length + 1 = _
    omega
theorem nd_8 {l : List Nat} (h : l.Nodup) (h8 : ∀ p, p ∈ l → p < 8) : l.length ≤ 8 := by
  rw [nd_len l h h8]; exact g_n_bound 8
/-- what an ear's rest leaves -/
theorem ep_ne {N G : Nat → Prop} {b s f a : Nat} {T : List Nat} (h : ep C N G b s f a T) : T ≠ [] := by
  match f, h with
  | 1, ⟨g, _, h⟩ => rw [h]; simp
  | f + 2, ⟨q, T', _, _, h⟩ => rw [h]; simp
theorem dropLast_cons {q : Nat} {T : List Nat} (h : T ≠ []) : (q :: T).dropLast = q :: T.dropLast := by
  cases T with
  | nil => exact absurd rfl h
  | cons a t => rfl
theorem nodup_snoc {J : List Nat} {a : Nat} (h : J.Nodup) (ha : ¬ a ∈ J) : (J ++ [a]).Nodup := by
  rw [List.nodup_append]
  refine ⟨h, List.nodup_cons.mpr ⟨by simp, List.nodup_nil⟩, fun x hx y hy e => ?_⟩
  rw [List.mem_singleton.mp hy] at e
  exact ha (e ▸ hx)
theorem ep_inv {I : List Nat} {b s : Nat} (hB : ∀ p q, C p q → C q p ∧ B p ∧ B q) : ∀ f a T J (Lo : Nat → Nat → Prop), fa C (fun p => p ∈ I) (gl I b) b s f a → ep C (fun p => p ∈ I) (gl I b) b s f a T → J.Nodup → (∀ p, p ∈ J → p ∈ I ∨ ∃ n, f < n ∧ fa C (fun p => p ∈ I) (gl I b) b s n p) → (∀ p, p ∈ I → p ∈ J) → (∀ p, p ∈ J → B p) → (∀ p q, C p q → ¬ p ∈ J → p ≠ a → Lo p q) → (J ++ (a :: T.dropLast)).Nodup ∧ (∀ p, p ∈ J ++ (a :: T.dropLast) → B p) ∧ (∀ p q, C p q → ¬ p ∈ J ++ (a :: T.dropLast) → lz Lo (a :: T) p q) ∧ ∃ g, T.getLast? = some g ∧ g ∈ I
  | 0, _, _, _, _, h, _, _, _, _, _, _ => h.1.elim
  | 1, a, T, J, Lo, hf, ⟨g, hg, hT⟩, hnd, hJ, hIJ, hJB, hLo => by
    subst hT
    have haJ : ¬ a ∈ J := fun z => by
      rcases hJ a z with k | ⟨n, n1, n2⟩
      · exact dl_N hf.1 k
      · have := fa_un n2 hf; omega
    obtain ⟨w, hw⟩ := dl_C hf.1
    refine ⟨nodup_snoc hnd haJ, fun p hp => ?_, fun p q hc hp => ?_, g, rfl, hg.1.1.1⟩
    · rcases List.mem_append.mp hp with z | z
      · exact hJB p z
      · rw [List.mem_singleton.mp z]; exact (hB a w hw).2.1
    · have hpJ : ¬ p ∈ J := fun z => hp (List.mem_append.mpr (Or.inl z))
      have hpa : p ≠ a := fun z => hp (List.mem_append.mpr (Or.inr (List.mem_singleton.mpr z)))
      rw [lz_two]
      exact ⟨hLo p q hc hpJ hpa, fun z => hpa z.1, fun z => hpJ (hIJ _ (z.1 ▸ hg.1.1.1))⟩
  | f + 2, a, T, J, Lo, hf, ⟨q0, T', hq, hT', hT⟩, hnd, hJ, hIJ, hJB, hLo => by
    subst hT
    have haJ : ¬ a ∈ J := fun z => by
      rcases hJ a z with k | ⟨n, n1, n2⟩
      · exact dl_N hf.1 k
      · have := fa_un n2 hf; omega
    obtain ⟨w, hw⟩ := dl_C hf.1
    have hq0J : ¬ q0 ∈ J ++ [a] := fun z => by
      rcases List.mem_append.mp z with z | z
      · rcases hJ q0 z with k | ⟨n, n1, n2⟩
        · exact dl_N hq.1.2.1 k
        · have := fa_un n2 hq.1.2; omega
      · rw [List.mem_singleton.mp z] at hq
        have := fa_un hf hq.1.2
        omega
    have r := ep_inv hB (f + 1) q0 T' (J ++ [a]) (lm Lo a q0) hq.1.2 hT' (nodup_snoc hnd haJ) (fun p hp => by
      rcases List.mem_append.mp hp with z | z
      · rcases hJ p z with k | ⟨n, n1, n2⟩
        · exact Or.inl k
        · exact Or.inr ⟨n, by omega, n2⟩
      · rw [List.mem_singleton.mp z]; exact Or.inr ⟨f + 2, by omega, hf⟩) (fun p hp => List.mem_append.mpr (Or.inl (hIJ p hp))) (fun p hp => by
      rcases List.mem_append.mp hp with z | z
      · exact hJB p z
      · rw [List.mem_singleton.mp z]; exact (hB a w hw).2.1) (fun p q hc hp hpq => by
      have hpJ : ¬ p ∈ J := fun z => hp (List.mem_append.mpr (Or.inl z))
      have hpa : p ≠ a := fun z => hp (List.mem_append.mpr (Or.inr (List.mem_singleton.mpr z)))
      exact ⟨hLo p q hc hpJ hpa, fun z => hpa z.1, fun z => hpq z.1⟩)
    have eJ : J ++ [a] ++ (q0 :: T'.dropLast) = J ++ (a :: (q0 :: T').dropLast) := by
      rw [dropLast_cons (ep_ne hT'), List.append_assoc]; rfl
    rw [eJ, lz_cons] at r
    refine ⟨r.1, r.2.1, r.2.2.1, ?_⟩
    obtain ⟨g, g1, g2⟩ := r.2.2.2
    refine ⟨g, ?_, g2⟩
    cases T' with
    | nil => exact absurd rfl (ep_ne hT')
    | cons c t => exact g1
theorem uc_lm (hC : ∀ p q, C p q → C q p ∧ p < 8 ∧ q < 8 ∧ p ≠ q) (hL : ∀ p q, Lo p q → C p q ∧ Lo q p) {a c : Nat} (hl : Lo a c) : uc C Lo + 1 ≤ uc C (lm Lo a c) :=
  uc_go hC (fun p q h => (hL p q h).2) (fun p q h => h.1) (hL a c hl).1 hl (fun z => z.2.1 ⟨rfl, rfl⟩) (fun z => z.2.2 ⟨rfl, rfl⟩)
theorem lm_ok (hL : ∀ p q, Lo p q → C p q ∧ Lo q p) (a c : Nat) : ∀ p q, lm Lo a c p q → C p q ∧ lm Lo a c q p := fun p q h =>
  ⟨(hL p q h.1).1, (hL p q h.1).2, fun z => h.2.2 ⟨z.2, z.1⟩, fun z => h.2.1 ⟨z.2, z.1⟩⟩
/-- the farther of s's side -/
theorem fa_without {N G : Nat → Prop} {b s fs : Nat} (hs : fa C N G b s fs s) : (∀ n p, n < fs → fa C N G b s n p → fa C (fun p => N p ∨ p = s) G b s n p) ∧ ∀ n p, fa C (fun p => N p ∨ p = s) G b s n p → ∃ m, m ≤ n ∧ fa C N G b s m p := by
  have sub : ∀ n p, dl C (fun p => N p ∨ p = s) G b s n p → dl C N G b s n p := by
    intro n
    induction n using Nat.strongRecOn with
    | _ n ih =>
      intro p h
      match n, ih, h with
      | 1, _, h => exact ⟨fun z => h.1 (Or.inl z), h.2⟩
      | n + 2, ih, h =>
        obtain ⟨h1, q, h2, h3⟩ := h
        exact ⟨fun z => h1 (Or.inl z), q, h2, ih (n + 1) (by omega) q h3⟩
  have key : ∀ n p, n < fs → fa C N G b s n p → dl C (fun p => N p ∨ p = s) G b s n p := by
    intro n
    induction n with
    | zero => intro p _ h; exact h.1
    | succ n ih =>
      intro p hn h
      have hps : p ≠ s := fun e => by
        rw [e] at h
        have := fa_un h hs
        omega
      cases n with
      | zero => exact ⟨fun z => z.elim h.1.1 hps, h.1.2⟩
      | succ n =>
        obtain ⟨q, q1, q2⟩ := fa_next h
        exact ⟨fun z => z.elim (dl_N h.1) hps, q, q1, ih q (by omega) q2⟩
  refine ⟨fun n p hn h => ⟨key n p hn h, fun m hm hd => h.2 m hm (sub m p hd)⟩, fun n p h => ?_⟩
  obtain ⟨m, hm⟩ := fa_ex (sub n p h.1)
  refine ⟨m, ?_, hm⟩
  exact Classical.byContradiction fun z => hm.2 n (by omega) (sub n p h.1)
theorem lead_go {I : List Nat} {b s fs : Nat} {O Gm : Int32} (hB : ∀ p q, C p q → C q p ∧ B p ∧ B q) (hCn : ∀ p q, C p q → p ≠ q) (hB8 : ∀ p, B p → p < 8) (hO : ∀ p, bt O p = true ↔ B p) (hGm : ∀ p, bt Gm p = true ↔ gl I b p) (hbI : b ∈ I) (hfs : fa C (fun p => p ∈ I) (gl I b) b s fs s) (h16 : tc C ≤ 16) : ∀ f at' r J (Lo : Nat → Nat → Prop) F (x : mX) pv n, fa C (fun p => p ∈ I) (gl I b) b s f at' → f ≤ fs → ((at' = s ∧ pv = b ∧ (∀ p, p ∈ J ↔ p ∈ I) ∧ r = 0) ∨ (at' ≠ s ∧ ¬ pv ∈ I ∧ 0 < r ∧ fr_X x C (fun p => p ∈ I ∨ p = s) (gl I b) b s)) → cx_X x Lo J F → J.Nodup → (∀ p, p ∈ J → p ∈ I ∨ ∃ n, f < n ∧ fa C (fun p => p ∈ I) (gl I b) b s n p) → (∀ p, p ∈ I → p ∈ J) → (∀ p, p ∈ J → B p) → (∀ p q, Lo p q → C p q ∧ Lo q p) → (∀ p q, C p q → ¬ p ∈ J → p ≠ at' → Lo p q) → (∀ g, Lo at' g ↔ C at' g ∧ g ≠ pv) → F.length ≤ 2 * uc C Lo → r < J.length → f < n → ∃ x' T, f_X0_lead_L77 O Gm n (nI at') 1 (nI r) x = some x' ∧ ep C (fun p => p ∈ I) (gl I b) b s f at' T ∧ cx_X x' (lz Lo (at' :: T)) (J ++ (at' :: T.dropLast)) (F ++ T) ∧ xF ew_W x x' ∧ uc C Lo + T.length ≤ uc C (lz Lo (at' :: T)) := by
  have hC8 : ∀ p q, C p q → C q p ∧ p < 8 ∧ q < 8 ∧ p ≠ q := fun p q h => ⟨(hB p q h).1, hB8 p (hB p q h).2.1, hB8 q (hB p q h).2.2, hCn p q h⟩
  have hwo := fa_without hfs
  intro f
  induction f with
  | zero => intro at' r J Lo F x pv n hf; exact hf.1.elim
  | succ f ih =>
    intro at' r J Lo F x pv n hf hffs hst hx hnd hJ hIJ hJB hL hLJ hLat hFl hr hn
    have haN : ¬ at' ∈ I := dl_N hf.1
    have haJ : ¬ at' ∈ J := fun z => by
      rcases hJ at' z with k | ⟨m, m1, m2⟩
      · exact haN k
      · have := fa_un m2 hf; omega
    obtain ⟨w0, hw0⟩ := dl_C hf.1
    have haB := (hB at' w0 hw0).2.1
    have ha8 := hB8 at' haB
    have hJlen : J.length + 1 ≤ 8 := by
      have := nd_8 (l := at' :: J) (List.nodup_cons.mpr ⟨haJ, hnd⟩) (fun p hp => by
        rcases List.mem_cons.mp hp with e | e
        · rw [e]; exact ha8
        · exact hB8 p (hJB p e))
      exact this
    have huc16 : uc C Lo ≤ 16 := Nat.le_trans (uc_le (fun p q h => (hL p q h).1)) h16
    cases n with
    | zero => omega
    | succ n =>
      obtain ⟨x8, e1, e2, e3, e4⟩ := enter_ok ha8 x hx (by omega)
      rw [f_X0_lead_L77, if_neg (k8f (by omega)), if_neg (by decide), e1, Option.bind_some, m_jn, nI_1]
      have post : ∀ x10 : mX, cx_X x10 Lo (J ++ [at']) F → fr_X x10 C (fun p => p ∈ I ∨ p = s) (gl I b) b s → xF ew_W x x10 → ∃ x' T, (if m_in (nI at') 8 = true then ((f_X10_lowest ((x10.1 248 (nI at').toNatClampNeg) &&& Gm)).bind fun q11 => (m_jn (fun w13 => (if w13 = (-1 : Int32) then (some x10) else ((f_X0_goOver (nI at') w13 x10).bind fun q14 => (if q11 = (-1 : Int32) then (f_X0_lead_L77 O Gm n w13 (1 : Int32) (nI (r + 1)) q14) else (f_X0_lead_L77 O Gm n w13 (0 : Int32) (nI (r + 1)) q14))))) (fun j12 => if q11 = (-1 : Int32) then (if m_in (nI at') 8 = true then ((f_X0_nearest (((x10.1 248 (nI at').toNatClampNeg) &&& O) &&& ((x10.1 245 7) ^^^ (-1 : Int32))) x10).bind fun q15 => (j12 q15)) else none) else (j12 q11)))) else none) = some x' ∧ ep C (fun p => p ∈ I) (gl I b) b s (f + 1) at' T ∧ cx_X x' (lz Lo (at' :: T)) (J ++ (at' :: T.dropLast)) (F ++ T) ∧ xF ew_W x x' ∧ uc C Lo + T.length ≤ uc C (lz Lo (at' :: T)) := by
        intro x10 hx10 hfr hF10
        obtain ⟨y1, y2, y3, y4, y5, y6⟩ := id hx10
        rw [if_pos (in_ok ha8 (by decide)), cl (by omega)]
        have hbits : ∀ g, bt ((x10.1 248 at') &&& Gm) g = true ↔ gl I b g ∧ xc C b s at' g := fun g => by
          rw [b_and, Bool.and_eq_true, y6 at' ha8 g, hGm g, hLat g]
          constructor
          · rintro ⟨⟨z1, z2⟩, z3⟩
            refine ⟨z3, z1, fun z => ?_⟩
            rcases hst with ⟨_, h2, _⟩ | ⟨h1, _⟩
            · exact z2 (z.2.trans h2.symm)
            · exact h1 z.1
          · rintro ⟨z1, z2, z3⟩
            refine ⟨⟨z2, fun z => ?_⟩, z1⟩
            rcases hst with ⟨h1, h2, _⟩ | ⟨_, h2, _⟩
            · exact z3 ⟨h1, z.trans h2⟩
            · exact h2 (z ▸ z1.1)
        cases f with
        | zero =>
          obtain ⟨_, g, g1, g2⟩ := hf.1
          obtain ⟨g0, hg0⟩ := lo1_ex (P := fun g => gl I b g ∧ xc C b s at' g) ⟨g1, g2⟩
          have hg8 : g0 < 8 := (hC8 at' g0 hg0.1.2.1).2.2.1
          rw [lowest_at hg8 ((hbits g0).mpr hg0.1) (fun i hi hb => hg0.2 i hi ((hbits i).mp hb)), Option.bind_some, m_jn, if_neg (nI_m1 (by omega))]
          dsimp only
          rw [if_neg (nI_m1 (by omega))]
          have hl : Lo at' g0 := by
            have := (hbits g0).mpr hg0.1
            rw [b_and, Bool.and_eq_true, y6 at' ha8 g0] at this
            exact this.1
          obtain ⟨x', o1, o2, o3, _⟩ := goOver_ok ha8 hg8 (hCn at' g0 hg0.1.2.1) x10 hx10 (by omega)
          rw [o1, Option.bind_some, if_neg (nI_m1 (by omega))]
          cases n with
          | zero => omega
          | succ n =>
            have stop : f_X0_lead_L77 O Gm (n + 1) (nI g0) 0 (nI (r + 1)) x' = some x' := by
              rw [f_X0_lead_L77]
              by_cases c8 : (8 : Int32) ≤ nI (r + 1)
              · rw [if_pos c8]
              · rw [if_neg c8, if_pos rfl]
            rw [stop]
            refine ⟨x', [g0], rfl, ⟨g0, hg0, rfl⟩, ?_, xF_tr hF10 o3, ?_⟩
            · rw [lz_two]; exact o2
            · rw [lz_two]; exact uc_lm hC8 hL hl
        | succ f =>
          have hnone : ∀ g, ¬ bt ((x10.1 248 at') &&& Gm) g = true := fun g hg => by
            have k := (hbits g).mp hg
            exact hf.2 1 (by omega) ⟨haN, g, k.1, k.2⟩
          have elow : f_X10_lowest ((x10.1 248 at') &&& Gm) = some (-1) := by
            rcases lowest_ok ((x10.1 248 at') &&& Gm) with ⟨m, _, m2, _⟩ | ⟨_, m2⟩
            · exact absurd m2 (hnone m)
            · exact m2
          rw [elow, Option.bind_some, m_jn, if_pos rfl, if_pos (in_ok ha8 (by decide))]
          obtain ⟨q1, q1c, q1f⟩ := fa_next hf
          obtain ⟨q0, hq0⟩ := lo1_ex (P := fun q => C at' q ∧ fa C (fun p => p ∈ I) (gl I b) b s (f + 1) q) ⟨q1c, q1f⟩
          have hq8 := (hC8 at' q0 hq0.1.1).2.2.1
          have hq0J : ¬ q0 ∈ J ++ [at'] := fun z => by
            rcases List.mem_append.mp z with z | z
            · rcases hJ q0 z with k | ⟨m, m1, m2⟩
              · exact dl_N hq0.1.2.1 k
              · have := fa_un m2 hq0.1.2; omega
            · exact hCn _ _ hq0.1.1 (List.mem_singleton.mp z).symm
          have hq0J' : ¬ q0 ∈ J := fun z => hq0J (List.mem_append.mpr (Or.inl z))
          have hl : Lo at' q0 := (hL q0 at' (hLJ q0 at' (hB _ _ hq0.1.1).1 hq0J' (Ne.symm (hCn _ _ hq0.1.1)))).2
          have hset : ∀ q, bt (((x10.1 248 at') &&& O) &&& ((x10.1 245 7) ^^^ (-1 : Int32))) q = true ↔ (Lo at' q ∧ B q) ∧ ¬ q ∈ J ++ [at'] := fun q => by
            rw [b_wos, Bool.and_eq_true, b_and, Bool.and_eq_true, y6 at' ha8 q, hO q]
            refine and_congr Iff.rfl ?_
            rw [← y4 q]; simp
          have hfq := hwo.1 (f + 1) q0 (by omega) hq0.1.2
          have hle8 : f + 1 ≤ 8 := by
            have := fa_7 (h := b) (fun p q h => (hC8 p q h).2.1) hbI (hB8 b (hJB b (hIJ b hbI))) hq0.1.2
            omega
          have efar : x10.1 250 q0 = nI (f + 1) := by
            rcases hfr q0 hq8 with ⟨m, _, m2, m3⟩ | ⟨m1, _⟩
            · rw [m3, fa_un m2 hfq]
            · exact absurd hfq (m1 _)
          have hmin : ∀ q m, bt (((x10.1 248 at') &&& O) &&& ((x10.1 245 7) ^^^ (-1 : Int32))) q = true → fa C (fun p => p ∈ I ∨ p = s) (gl I b) b s m q → f + 1 ≤ m ∧ (q < q0 → f + 1 < m) := fun q m hq hm => by
            have k := (hset q).mp hq
            have hc := (hL at' q k.1.1).1
            obtain ⟨m', m1, m2⟩ := hwo.2 m q hm
            have := fa_nb hf hc m2
            refine ⟨by omega, fun hlt => ?_⟩
            refine Classical.byContradiction fun hc2 => ?_
            have : m' = f + 1 := by omega
            subst this
            exact hq0.2 q hlt ⟨hc, m2⟩
          rw [nearest_at x10 hfr hle8 (by omega) hq8 ((hset q0).mpr ⟨⟨hl, (hB _ _ hq0.1.1).2.2⟩, hq0J⟩) efar hmin, Option.bind_some]
          dsimp only
          rw [if_neg (nI_m1 (by omega))]
          obtain ⟨x', o1, o2, o3, o4⟩ := goOver_ok ha8 hq8 (hCn at' q0 hq0.1.1) x10 hx10 (by omega)
          rw [o1, Option.bind_some, if_pos rfl]
          have hu := uc_lm hC8 hL hl
          have hq0s : q0 ≠ s := fun e => by
            have k := hq0.1.2
            rw [e] at k
            have := fa_un k hfs
            omega
          obtain ⟨x'', T, r1, r2, r3, r4, r5⟩ := ih q0 (r + 1) (J ++ [at']) (lm Lo at' q0) (F ++ [q0]) x' at' n hq0.1.2 (by omega) (Or.inr ⟨hq0s, haN, by omega, fun p hp => by
            rw [o4]; exact hfr p hp⟩) o2 (nodup_snoc hnd haJ) (fun p hp => by
            rcases List.mem_append.mp hp with z | z
            · rcases hJ p z with k | ⟨m, m1, m2⟩
              · exact Or.inl k
              · exact Or.inr ⟨m, by omega, m2⟩
            · rw [List.mem_singleton.mp z]; exact Or.inr ⟨f + 2, by omega, hf⟩) (fun p hp => List.mem_append.mpr (Or.inl (hIJ p hp))) (fun p hp => by
            rcases List.mem_append.mp hp with z | z
            · exact hJB p z
            · rw [List.mem_singleton.mp z]; exact haB) (lm_ok hL at' q0) (fun p q hc hp hpq => by
            have hpJ : ¬ p ∈ J := fun z => hp (List.mem_append.mpr (Or.inl z))
            have hpa : p ≠ at' := fun z => hp (List.mem_append.mpr (Or.inr (List.mem_singleton.mpr z)))
            exact ⟨hLJ p q hc hpJ hpa, fun z => hpa z.1, fun z => hpq z.1⟩) (fun g => by
            have hneq : q0 ≠ at' := Ne.symm (hCn _ _ hq0.1.1)
            constructor
            · intro z
              exact ⟨(hL q0 g z.1).1, fun e => z.2.2 ⟨rfl, e⟩⟩
            · rintro ⟨z1, z2⟩
              exact ⟨hLJ q0 g z1 hq0J' hneq, fun z => hneq z.1, fun z => z2 z.2⟩) (by rw [List.length_append]; simp; omega) (by rw [List.length_append]; simp; omega) (by omega)
          rw [r1]
          have eJ : J ++ [at'] ++ (q0 :: T.dropLast) = J ++ (at' :: (q0 :: T).dropLast) := by
            rw [dropLast_cons (ep_ne r2), List.append_assoc]; rfl
          have eF : F ++ [q0] ++ T = F ++ (q0 :: T) := by rw [List.append_assoc]; rfl
          rw [eJ, lz_cons, eF] at r3
          rw [lz_cons] at r5
          refine ⟨x'', q0 :: T, rfl, ⟨q0, T, hq0, r2, rfl⟩, r3, xF_tr hF10 (xF_tr o3 r4), ?_⟩
          show uc C Lo + (T.length + 1) ≤ _
          omega
      rcases hst with ⟨h1, h2, h3, h4⟩ | ⟨h1, h2, h3, h4⟩
      · subst h4
        rw [if_pos nI_0]
        have hin : ∀ p, p ∈ J ++ [at'] ↔ p ∈ I ∨ p = s := fun p => by
          rw [List.mem_append, List.mem_singleton, h3 p, h1]
        obtain ⟨y1, y2, y3, y4, y5, y6⟩ := id e2
        obtain ⟨x10, m1, m2, m3⟩ := measure_ok (C := C) (B := B) (N := fun p => p ∈ I ∨ p = s) (G := gl I b) (b := b) (s := s) (S := O &&& ((x8.1 245 7) ^^^ (-1 : Int32))) (Gm := Gm) x8 (fun i hi => by
          rw [b_and, Bool.and_eq_true, hO i] at hi
          exact hB8 i hi.1) (fun p => by
          rw [b_wos, Bool.and_eq_true, hO p]
          refine and_congr Iff.rfl ?_
          rw [← hin p, ← y4 p]; simp) hGm (fun p hp => Or.inl hp.1) (Or.inr rfl) hB (fun p hpB hpN q => by
          rw [y6 p (hB8 p hpB) q]
          have hpJ : ¬ p ∈ J := fun z => hpN (Or.inl ((h3 p).mp z))
          have hpa : p ≠ at' := fun z => hpN (Or.inr (z.trans h1))
          exact ⟨fun z => (hL p q z).1, fun z => hLJ p q z hpJ hpa⟩)
        rw [m1, Option.bind_some]
        have q : ∀ k, k ≠ 250 → x10.1 k = x8.1 k := fun k hk => xF_row m2 (fun c z => hk z)
        refine post x10 ⟨by rw [q 245 (by decide)]; exact y1, by rw [q 246 (by decide)]; exact y2, by rw [q 245 (by decide)]; exact y3, by rw [q 245 (by decide)]; exact y4, by rw [q 249 (by decide)]; exact y5, by rw [q 248 (by decide)]; exact y6⟩ m3 (xF_tr e3 (xF_mo m2 (fun k c z => Or.inr (Or.inr (Or.inr (Or.inr z))))))
      · rw [if_neg (nI_ne0 h3 (by omega))]
        exact post x8 e2 (fun p hp => by rw [e4]; exact h4 p hp) e3
end E3
