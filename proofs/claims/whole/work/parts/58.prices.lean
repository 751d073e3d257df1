/-! ===== the class's cheapest ===== -/
section V2
variable {W : Nat → Nat → Nat → Prop} {S : Nat → Prop} {s : Nat} {σ : Nat → Int32} {np rt : Nat}
/-- the links M of a state, with their costs -/
def sC (σ : Nat → Int32) (M : Int32) (u v w : Nat) : Prop := u < 8 ∧ v < 8 ∧ ∃ l, l < sm σ ∧ bt M l = true ∧ sE σ l u v ∧ σ (40 + l) = nI w ∧ 1 ≤ w ∧ w ≤ 99
theorem sC_W (hW : sW σ np) (M : Int32) : wW (sC σ M) := by
  obtain ⟨w1, w2, w3, w4, w5, w6, w7, w8, w9⟩ := id hW
  refine ⟨fun u v w h => ?_, fun u v w w' h h' => ?_⟩
  · obtain ⟨hu, hv, l, l1, l2, l3, l4, l5, l6⟩ := h
    refine ⟨⟨hv, hu, l, l1, l2, sE_sy l3, l4, l5, l6⟩, l5, l6, hu, hv, ?_⟩
    obtain ⟨a, b, ha, hb, hab, e1, e2⟩ := w7 l l1
    have := (sE_iff (by omega) (by omega) hu hv e1 e2).mp l3
    omega
  · obtain ⟨hu, hv, l, l1, l2, l3, l4, l5, l6⟩ := h
    obtain ⟨_, _, k, k1, k2, k3, k4, k5, k6⟩ := h'
    have e := w8 l k u v l1 k1 hu hv l3 k3
    subst e
    exact (nI_eq (by omega) (by omega)).mp (l4.symm.trans k4)
/-- the row of the best -/
def bs_X (x : mX) (b : Nat → Nat) : Prop := ∀ v, v < 8 → x.1 255 v = nI (b v) ∧ b v ≤ 1000000
def pr_F (q c : Nat) : Prop := q = 255
theorem better_ok {b : Nat → Nat} {u v w : Nat} (hu : u < 8) (hv : v < 8) (hw : w ≤ 99) (x : mX) (hx : bs_X x b) : ∃ r x', f_X4_better (nI u) (nI v) (nI w) x = some (r, x') ∧ xF pr_F x x' ∧ ((b u + w < b v ∧ r = 1 ∧ bs_X x' (up b v (b u + w))) ∨ (b v ≤ b u + w ∧ r = 0 ∧ x' = x)) := by
  have h1 := hx u hu
  have h2 := hx v hv
  unfold f_X4_better
  rw [if_pos (in_ok hu (by decide)), if_pos (in_ok hv (by decide)), cl (by omega), cl (by omega), h1.1, h2.1, nI_add]
  by_cases c : b u + w < b v
  · rw [if_pos ((nI_ltI (by omega) (by omega)).mpr c), if_pos (in_ok hu (by decide)), if_pos (in_ok hv (by decide)), m_let]
    refine ⟨1, _, rfl, xF_set (xF_rf _ _) rfl, Or.inl ⟨c, rfl, fun p hp => ?_⟩⟩
    rw [xs_at]
    by_cases e : p = v
    · rw [if_pos e, e, up_eq]; exact ⟨rfl, by omega⟩
    · rw [if_neg e, up_ne e]; exact hx p hp
  · rw [if_neg (fun z => c ((nI_ltI (by omega) (by omega)).mp z))]
    exact ⟨0, x, rfl, xF_rf _ _, Or.inr ⟨by omega, rfl, rfl⟩⟩
theorem bf_up (hW : wW W) {b : Nat → Nat} {k u v w : Nat} (h : bf_I W S s k b) (hw : W u v w) (hu : S u) (hv : S v) (hlt : b u + w < b v) : bf_I W S s k (up b v (b u + w)) := by
  obtain ⟨h1, h2, h3⟩ := h
  have hvs : v ≠ s := fun e => by rw [e, h1] at hlt; omega
  have hu8 := (hW.1 _ _ _ hw).2.2.2.1
  have hv8 := (hW.1 _ _ _ hw).2.2.2.2.1
  have hw1 := (hW.1 _ _ _ hw).2.1
  refine ⟨by rw [up_ne (Ne.symm hvs)]; exact h1, fun p hp => ?_, fun n p c hn hc hm => ?_⟩
  · by_cases e : p = v
    · subst e
      rw [up_eq]
      rcases h2 u hu8 with z | ⟨z1, n, z2⟩
      · rcases h2 p hp with y | ⟨y1, _⟩
        · omega
        · omega
      · rcases h2 p hp with y | ⟨y1, y2⟩
        · exact Or.inr ⟨by omega, n + 1, hv, u, b u, w, z2, hw, rfl⟩
        · exact Or.inr ⟨by omega, n + 1, hv, u, b u, w, z2, hw, rfl⟩
    · rw [up_ne e]; exact h2 p hp
  · by_cases e : p = v
    · subst e
      rw [up_eq]
      have := h3 n p c hn hc hm
      omega
    · rw [up_ne e]; exact h3 n p c hn hc hm
/-- a round, links 0 .. i gone through: k the walks that were there, b0 what stood, ch whether something changed -/
def bf_R (σ : Nat → Int32) (M : Int32) (S : Nat → Prop) (s k i : Nat) (b0 b : Nat → Nat) (ch : Int32) : Prop :=
  bf_I (sC σ M) S s k b ∧ (∀ v, b v ≤ b0 v) ∧ ((ch = 0 ∧ (∀ v, b v = b0 v) ∧ ∀ l u v w, l < i → l < sm σ → bt M l = true → u < 8 → v < 8 → sE σ l u v → σ (40 + l) = nI w → 1 ≤ w → w ≤ 99 → S u → S v → b0 v ≤ b0 u + w) ∨ ch = 1) ∧
  ∀ l u v w, l < i → l < sm σ → bt M l = true → u < 8 → v < 8 → sE σ l u v → σ (40 + l) = nI w → 1 ≤ w → w ≤ 99 → S u → S v → b v ≤ b0 u + w
theorem cheapest_1 (x : mX) {Q : Option (Int32 × mX) → Prop} (kk : mX → Option (Int32 × mX)) (hk : ∀ x', xF pr_F x x' → (∀ v, v < 8 → x'.1 255 v = 1000000) → Q (kk x')) : Q (f_X4_cheapest_L3 mF 0 x kk) := by
  refine lp_up 8 (fun n b s => f_X4_cheapest_L3 n b s kk) (fun j s => xF pr_F x s ∧ ∀ v, v < j → s.1 255 v = 1000000) Q ?_ ?_ mF 0 x (by decide) (by decide) ⟨xF_rf _ _, fun v hv => by omega⟩
  · intro n s hI
    show Q (f_X4_cheapest_L3 (n + 1) (nI 8) s kk)
    rw [f_X4_cheapest_L3, if_pos (by decide)]
    exact hk s hI.1 hI.2
  · intro n j s hj hI ih
    show Q (f_X4_cheapest_L3 (n + 1) (nI j) s kk)
    rw [f_X4_cheapest_L3, if_neg (k8f hj), if_pos (in_ok hj (by decide)), cl (by omega), m_let, nI_1]
    refine ih _ ⟨xF_set hI.1 rfl, fun v hv => ?_⟩
    rw [xs_at]
    by_cases e : v = j
    · rw [if_pos e]
    · rw [if_neg e]; exact hI.2 v (by omega)
theorem cheapest_2 (hW : sW σ np) {M Wi : Int32} (hWi : ∀ p, bt Wi p = true ↔ S p) {k : Nat} {b0 : Nat → Nat} (x : mX) (hR : sR x.1 14 σ np rt) (hx : bs_X x b0) (hI0 : bf_I (sC σ M) S s k b0) {Q : Option (Int32 × mX) → Prop} (kk : Int32 → mX → Option (Int32 × mX)) (hq : ∀ ch x' b, xF pr_F x x' → bs_X x' b → bf_R σ M S s k 16 b0 b ch → Q (kk ch x')) : Q (f_X4_cheapest_L56 M Wi mF 0 0 x kk) := by
  obtain ⟨w1, w2, w3, w4, w5, w6, w7, w8, w9⟩ := id hW
  have hWW := sC_W hW M
  refine lp_up 16 (fun n j (t : Int32 × mX) => f_X4_cheapest_L56 M Wi n t.1 j t.2 kk) (fun j t => xF pr_F x t.2 ∧ ∃ b, bs_X t.2 b ∧ bf_R σ M S s k j b0 b t.1) Q ?_ ?_ mF 0 (0, x) (by decide) (by decide) ⟨xF_rf _ _, b0, hx, hI0, fun _ => Nat.le_refl _, Or.inl ⟨rfl, fun _ => rfl, fun l u v w h => by omega⟩, fun l u v w h => by omega⟩
  · rintro n t ⟨h1, b, h2, h3⟩
    show Q (f_X4_cheapest_L56 M Wi (n + 1) t.1 (nI 16) t.2 kk)
    rw [f_X4_cheapest_L56, if_pos (by decide)]
    exact hq t.1 t.2 b h1 h2 h3
  · rintro n j t hj ⟨hF, b, hbx, hbI, hble, hch, hpr⟩ ih
    show Q (f_X4_cheapest_L56 M Wi (n + 1) t.1 (nI j) t.2 kk)
    have q : ∀ q, q ≠ 255 → t.2.1 q = x.1 q := fun q hq => xF_row hF (fun c z => hq z)
    have e14 : t.2.1 14 1 = nI (sm σ) := by rw [q 14 (by decide), hR.2.1]; exact w2
    rw [f_X4_cheapest_L56, if_neg (k16f hj), e14, nI_1]
    have skip : (∀ u v w, j < sm σ → bt M j = true → u < 8 → v < 8 → sE σ j u v → σ (40 + j) = nI w → 1 ≤ w → w ≤ 99 → S u → S v → False) → Q (f_X4_cheapest_L56 M Wi n t.1 (nI (j + 1)) t.2 kk) := by
      intro hno
      refine ih (t.1, t.2) ⟨hF, b, hbx, hbI, hble, ?_, fun l u v w h => ?_⟩
      · rcases hch with ⟨c1, c2, c3⟩ | c1
        · refine Or.inl ⟨c1, c2, fun l u v w h => ?_⟩
          by_cases e : l = j
          · subst e
            intro g1 g2 g3 g4 g5 g6 g7 g8 g9 g10
            exact (hno u v w g1 g2 g3 g4 g5 g6 g7 g8 g9 g10).elim
          · exact c3 l u v w (by omega)
        · exact Or.inr c1
      · by_cases e : l = j
        · subst e
          intro g1 g2 g3 g4 g5 g6 g7 g8 g9 g10
          exact (hno u v w g1 g2 g3 g4 g5 g6 g7 g8 g9 g10).elim
        · exact hpr l u v w (by omega)
    by_cases cm : sm σ ≤ j
    · rw [if_pos ((nI_leI (by omega) (by omega)).mpr cm)]
      exact skip (fun u v w h => by omega)
    · rw [if_neg (fun z => cm ((nI_leI (by omega) (by omega)).mp z))]
      by_cases cM : bt M j = true
      · obtain ⟨a, c, ha, hc, hac, e1, e2⟩ := w7 j (by omega)
        obtain ⟨p, p1, p2, p3⟩ := w9 j (by omega)
        have rl := hR.2.2.2.2.2.2.2.2.2.2 j (by omega)
        have e15 : t.2.1 15 j = nI a := by rw [q 15 (by decide)]; exact rl.1.trans e1
        have e16 : t.2.1 16 j = nI c := by rw [q 16 (by decide)]; exact rl.2.1.trans e2
        have e17 : t.2.1 17 j = nI p := by rw [q 17 (by decide)]; exact rl.2.2.1.trans p3
        have hse : ∀ u v, u < 8 → v < 8 → (sE σ j u v ↔ (u = a ∧ v = c) ∨ (u = c ∧ v = a)) := fun u v hu hv => sE_iff (by omega) (by omega) hu hv e1 e2
        rw [if_neg (h10t (by omega) cM), if_pos (in_ok hj (by decide)), cl (by omega), e15]
        by_cases cS1 : bt Wi a = true
        · rw [if_neg (h10t (by omega) cS1), if_pos (in_ok hj (by decide)), e16]
          by_cases cS2 : bt Wi c = true
          · have hSa := (hWi a).mp cS1
            have hSc := (hWi c).mp cS2
            have hC : sC σ M a c p := ⟨by omega, by omega, j, by omega, cM, Or.inl ⟨e1, e2⟩, p3, p1, p2⟩
            have hC' := (hWW.1 _ _ _ hC).1
            rw [if_neg (h10t (by omega) cS2), if_pos (in_ok hj (by decide)), if_pos (in_ok hj (by decide)), if_pos (in_ok hj (by decide)), e17]
            obtain ⟨r4, x4, b1, b2, b3⟩ := better_ok (b := b) (u := a) (v := c) (w := p) (by omega) (by omega) p2 t.2 hbx
            have q4 : ∀ q, q ≠ 255 → x4.1 q = t.2.1 q := fun q hq => xF_row b2 (fun c z => hq z)
            rw [b1, Option.bind_some]
            dsimp only
            rw [if_pos (in_ok hj (by decide)), if_pos (in_ok hj (by decide)), if_pos (in_ok hj (by decide)), q4 15 (by decide), q4 16 (by decide), q4 17 (by decide), e15, e16, e17]
            -- what stands behind the first of the two
            have first : ∃ b', bs_X x4 b' ∧ bf_I (sC σ M) S s k b' ∧ (∀ v, b' v ≤ b v) ∧ b' c ≤ b a + p ∧ b' a = b a ∧ ((r4 = 0 ∧ b' = b) ∨ r4 = 1) := by
              rcases b3 with ⟨z1, z2, z3⟩ | ⟨z1, z2, z3⟩
              · refine ⟨up b c (b a + p), z3, bf_up hWW hbI hC hSa hSc z1, fun v => ?_, by rw [up_eq]; exact Nat.le_refl _, up_ne hac, Or.inr z2⟩
                by_cases e : v = c
                · rw [e, up_eq]; omega
                · rw [up_ne e]; exact Nat.le_refl _
              · exact ⟨b, by rw [z3]; exact hbx, hbI, fun _ => Nat.le_refl _, z1, rfl, Or.inl ⟨z2, rfl⟩⟩
            obtain ⟨b', f1, f2, f3, f4, f5, f6⟩ := first
            obtain ⟨r5, x5, d1, d2, d3⟩ := better_ok (b := b') (u := c) (v := a) (w := p) (by omega) (by omega) p2 x4 f1
            rw [d1, Option.bind_some]
            dsimp only
            have second : ∃ b'', bs_X x5 b'' ∧ bf_I (sC σ M) S s k b'' ∧ (∀ v, b'' v ≤ b' v) ∧ b'' a ≤ b' c + p ∧ ((r5 = 0 ∧ b'' = b') ∨ r5 = 1) := by
              rcases d3 with ⟨z1, z2, z3⟩ | ⟨z1, z2, z3⟩
              · refine ⟨up b' a (b' c + p), z3, bf_up hWW f2 hC' hSc hSa z1, fun v => ?_, by rw [up_eq]; exact Nat.le_refl _, Or.inr z2⟩
                by_cases e : v = a
                · rw [e, up_eq]; omega
                · rw [up_ne e]; exact Nat.le_refl _
              · exact ⟨b', by rw [z3]; exact f1, f2, fun _ => Nat.le_refl _, z1, Or.inl ⟨z2, rfl⟩⟩
            obtain ⟨b'', g1, g2, g3, g4, g5⟩ := second
            have F5 : xF pr_F x x5 := xF_tr hF (xF_tr b2 d2)
            have fin : ∀ ch : Int32, ((ch = 0 ∧ t.1 = 0 ∧ b'' = b) ∨ ch = 1) → Q (f_X4_cheapest_L56 M Wi n ch (nI (j + 1)) x5 kk) := by
              intro ch hch2
              have le2 : ∀ v, b'' v ≤ b v := fun v => Nat.le_trans (g3 v) (f3 v)
              refine ih (ch, x5) ⟨F5, b'', g1, g2, fun v => Nat.le_trans (le2 v) (hble v), ?_, fun l u v w h => ?_⟩
              · rcases hch2 with ⟨c1, c2, c3⟩ | c1
                · rcases hch with ⟨k1, k2, k3⟩ | k1
                  · refine Or.inl ⟨c1, fun v => by rw [c3]; exact k2 v, fun l u v w h h1 h2 hu hv he hp hp1 hp2 hSu hSv => ?_⟩
                    by_cases e : l = j
                    · subst e
                      have ew : w = p := (nI_eq (by omega) (by omega)).mp (hp.symm.trans p3)
                      subst ew
                      have s1 := g4
                      have s2 := f4
                      have s3 := g3 c
                      rw [c3] at s1 s3
                      have s4 := f3 c
                      rcases (hse u v hu hv).mp he with ⟨rfl, rfl⟩ | ⟨rfl, rfl⟩
                      · have a1 := k2 u
                        have a2 := k2 v
                        omega
                      · have a1 := k2 u
                        have a2 := k2 v
                        omega
                    · exact k3 l u v w (by omega) h1 h2 hu hv he hp hp1 hp2 hSu hSv
                  · rw [k1] at c2
                    exact absurd c2 (by decide)
                · exact Or.inr c1
              · intro h1 h2 hu hv he hp hp1 hp2 hSu hSv
                by_cases e : l = j
                · subst e
                  have ew : w = p := (nI_eq (by omega) (by omega)).mp (hp.symm.trans p3)
                  subst ew
                  rcases (hse u v hu hv).mp he with ⟨rfl, rfl⟩ | ⟨rfl, rfl⟩
                  · have a1 := g3 v
                    have a2 := hble u
                    omega
                  · have a1 := f3 u
                    have a2 := hble u
                    omega
                · have := hpr l u v w (by omega) h1 h2 hu hv he hp hp1 hp2 hSu hSv
                  have := le2 v
                  omega
            by_cases ct : t.1 = 0
            · rw [if_pos ct]
              rcases f6 with ⟨y1, y2⟩ | y1
              · rw [if_pos y1]
                rcases g5 with ⟨y3, y4⟩ | y3
                · rw [if_pos y3]
                  exact fin 0 (Or.inl ⟨rfl, ct, by rw [y4, y2]⟩)
                · rw [if_neg (by rw [y3]; decide)]
                  exact fin 1 (Or.inr rfl)
              · rw [if_neg (by rw [y1]; decide)]
                exact fin 1 (Or.inr rfl)
            · rw [if_neg ct]
              exact fin 1 (Or.inr rfl)
          · rw [if_pos (h10f (by omega) cS2)]
            refine skip (fun u v w _ _ hu hv he _ _ _ hSu hSv => cS2 ((hWi c).mpr ?_))
            rcases (hse u v hu hv).mp he with ⟨_, z⟩ | ⟨z, _⟩
            · rw [← z]; exact hSv
            · rw [← z]; exact hSu
        · rw [if_pos (h10f (by omega) cS1)]
          refine skip (fun u v w _ _ hu hv he _ _ _ hSu hSv => cS1 ((hWi a).mpr ?_))
          rcases (hse u v hu hv).mp he with ⟨z, _⟩ | ⟨_, z⟩
          · rw [← z]; exact hSu
          · rw [← z]; exact hSv
      · rw [if_pos (h10f (by omega) cM)]
        exact skip (fun u v w _ h => absurd h cM)
theorem cheapest_ok (hW : sW σ np) {M Wi : Int32} (hWi : ∀ p, bt Wi p = true ↔ S p) (hS8 : ∀ p, S p → p < 8) {d : Nat} (hs : S s) (hd : d < 8) (x : mX) (hR : sR x.1 14 σ np rt) : ∃ r x', f_X4_cheapest M (nI s) (nI d) Wi x = some (nI r, x') ∧ xF pr_F x x' ∧ bf_E (sC σ M) S s d r ∧ r ≤ 1000000 := by
  have hs8 := hS8 s hs
  have hWW := sC_W hW M
  unfold f_X4_cheapest
  refine cheapest_1 (Q := fun o => ∃ r x', o = some (nI r, x') ∧ xF pr_F x x' ∧ bf_E (sC σ M) S s d r ∧ r ≤ 1000000) x _ ?_
  intro x2 F2 h2
  rw [if_pos (in_ok hs8 (by decide)), cl (by omega), m_let]
  have key : ∀ m k n (b : Nat → Nat) (ch : Int32) (x' : mX), k + m = 8 → m < n → xF pr_F x x' → bs_X x' b → bf_I (sC σ M) S s k b → (ch = 0 → bf_I (sC σ M) S s 9 b) → ∃ r x'', f_X4_cheapest_L38 M (nI d) Wi n ch (nI k) x' = some (nI r, x'') ∧ xF pr_F x x'' ∧ bf_E (sC σ M) S s d r ∧ r ≤ 1000000 := by
    intro m
    induction m with
    | zero =>
      intro k n b ch x' hk hn hF hb hI _
      cases n with
      | zero => omega
      | succ n =>
        rw [f_X4_cheapest_L38, show k = 8 by omega, if_pos (by decide), if_pos (in_ok hd (by decide)), cl (by omega), (hb d hd).1]
        exact ⟨b d, x', rfl, hF, bf_end hWW hS8 hI (by omega) hd, (hb d hd).2⟩
    | succ m ih =>
      intro k n b ch x' hk hn hF hb hI hch
      cases n with
      | zero => omega
      | succ n =>
        rw [f_X4_cheapest_L38, if_neg (k8f (by omega))]
        by_cases c : ch = 0
        · rw [if_pos c, if_pos (in_ok hd (by decide)), cl (by omega), (hb d hd).1]
          exact ⟨b d, x', rfl, hF, bf_end hWW hS8 (hch c) (by omega) hd, (hb d hd).2⟩
        · rw [if_neg c, nI_1]
          have hR' : sR x'.1 14 σ np rt := by
            have q : ∀ q, q ≠ 255 → x'.1 q = x.1 q := fun q hq => xF_row hF (fun c z => hq z)
            unfold sR
            rw [q 14 (by decide), q (14 + 1) (by decide), q (14 + 2) (by decide), q (14 + 3) (by decide), q (14 + 4) (by decide)]
            exact hR
          refine cheapest_2 (Q := fun o => ∃ r x'', o = some (nI r, x'') ∧ xF pr_F x x'' ∧ bf_E (sC σ M) S s d r ∧ r ≤ 1000000) hW hWi x' hR' hb hI _ ?_
          rintro ch' x'' b' F' hb' ⟨r1, r2, r3, r4⟩
          refine ih (k + 1) n b' ch' x'' (by omega) (by omega) (xF_tr hF F') hb' ⟨r1.1, r1.2.1, fun n' v c' hn' hc' hm' => ?_⟩ (fun hc0 => ?_)
          · by_cases e : n' = k + 1
            · subst e
              obtain ⟨u, c'', w, o1, o2, o3, o4, o5⟩ := om_pre hc' hm'
              have hu := hI.2.2 k u c'' (Nat.le_refl _) o1 o2
              obtain ⟨hu8, hv8, l, l1, l2, l3, l4, l5, l6⟩ := o3
              have := r4 l u v w (by have := hW.2.2.1; omega) l1 l2 hu8 hv8 l3 l4 l5 l6 (wk_S k u c'' o1).1 o5
              omega
            · exact r1.2.2 n' v c' (by omega) hc' hm'
          · rcases r3 with ⟨z1, z2, z3⟩ | z
            · refine bf_stop hWW hS8 r1 (fun u v w hw hu hv => ?_)
              obtain ⟨hu8, hv8, l, l1, l2, l3, l4, l5, l6⟩ := hw
              rw [z2 u, z2 v]
              exact z3 l u v w (by have := hW.2.2.1; omega) l1 l2 hu8 hv8 l3 l4 l5 l6 hu hv
            · rw [z] at hc0
              exact absurd hc0 (by decide)
  have hb0 : bs_X (m_xs x2 255 s 0) (fun v => if v = s then 0 else 1000000) := fun v hv => by
    rw [xs_at]
    show _ = nI (if v = s then 0 else 1000000) ∧ (if v = s then 0 else 1000000) ≤ 1000000
    by_cases e : v = s
    · rw [if_pos e, if_pos e]; exact ⟨rfl, by omega⟩
    · rw [if_neg e, if_neg e]; exact ⟨h2 v hv, by omega⟩
  refine key 8 0 mF (fun v => if v = s then 0 else 1000000) 1 _ (by omega) (by decide) (xF_set F2 rfl) hb0 ⟨if_pos rfl, fun v hv => ?_, fun n v c hn hc _ => ?_⟩ (fun z => absurd z (by decide))
  · show (if v = s then 0 else 1000000) = 1000000 ∨ ((if v = s then 0 else 1000000) < 1000000 ∧ ∃ n, wk (sC σ M) S s n v (if v = s then 0 else 1000000))
    by_cases e : v = s
    · rw [if_pos e]
      exact Or.inr ⟨by omega, 0, e, rfl, hs⟩
    · rw [if_neg e]
      exact Or.inl rfl
  · have : n = 0 := by omega
    subst this
    rw [hc.1]
    show (if s = s then 0 else 1000000) ≤ c
    rw [if_pos rfl]
    omega
end V2
