/-! ===== the class's pair; the two alike ===== -/
/-- link l of the rows at r0 is of A and B -/
def bE (x : mX) (r0 l : Nat) (A B : Int32) : Prop := (x.1 (r0 + 1) l = A ∧ x.1 (r0 + 2) l = B) ∨ (x.1 (r0 + 1) l = B ∧ x.1 (r0 + 2) l = A)
theorem between_g (x : mX) (r0 : Nat) (A B : Int32) {m : Nat} (hm : x.1 r0 1 = nI m) (h16 : m ≤ 16) : (∃ l, l < m ∧ bE x r0 l A B ∧ f_X6_between r0 A B x = some (nI l)) ∨ ((∀ l, l < m → ¬ bE x r0 l A B) ∧ f_X6_between r0 A B x = some (-1)) := by
  unfold f_X6_between
  refine lp_up 16 (fun n b (_ : Unit) => f_X6_between_L2 r0 A B n b x) (fun j _ => ∀ l, l < j → l < m → ¬ bE x r0 l A B) (fun o => (∃ l, l < m ∧ bE x r0 l A B ∧ o = some (nI l)) ∨ ((∀ l, l < m → ¬ bE x r0 l A B) ∧ o = some (-1))) ?_ ?_ mF 0 () (by decide) (by decide) (fun l hl => by omega)
  · intro n _ hI
    refine Or.inr ⟨fun l hl => hI l (by omega) hl, ?_⟩
    show f_X6_between_L2 r0 A B (n + 1) (nI 16) x = _
    rw [f_X6_between_L2, if_pos (by decide)]
  · intro n j _ hj hI ih
    show (∃ l, l < m ∧ bE x r0 l A B ∧ f_X6_between_L2 r0 A B (n + 1) (nI j) x = some (nI l)) ∨ ((∀ l, l < m → ¬ bE x r0 l A B) ∧ f_X6_between_L2 r0 A B (n + 1) (nI j) x = some (-1))
    rw [f_X6_between_L2, if_neg (k16f hj), hm, nI_1]
    have next : (j < m → ¬ bE x r0 j A B) → (∃ l, l < m ∧ bE x r0 l A B ∧ f_X6_between_L2 r0 A B n (nI (j + 1)) x = some (nI l)) ∨ ((∀ l, l < m → ¬ bE x r0 l A B) ∧ f_X6_between_L2 r0 A B n (nI (j + 1)) x = some (-1)) := by
      intro hno
      refine ih () (fun l hl hlm => ?_)
      by_cases e : l = j
      · subst e; exact hno hlm
      · exact hI l (by omega) hlm
    by_cases cm : m ≤ j
    · rw [if_pos ((nI_leI (by omega) (by omega)).mpr cm)]
      exact next (fun h => by omega)
    · rw [if_neg (fun z => cm ((nI_leI (by omega) (by omega)).mp z)), if_pos (in_ok hj (by decide)), m_jn, cl (by omega)]
      have second : ¬ (x.1 (r0 + 1) j = A ∧ x.1 (r0 + 2) j = B) → (∃ l, l < m ∧ bE x r0 l A B ∧ (if m_in (nI j) 16 = true then (if (x.1 (r0 + 1) j) = B then (if m_in (nI j) 16 = true then (if (x.1 (r0 + 2) j) = A then (some (nI j)) else (f_X6_between_L2 r0 A B n (nI (j + 1)) x)) else none) else (f_X6_between_L2 r0 A B n (nI (j + 1)) x)) else none) = some (nI l)) ∨ ((∀ l, l < m → ¬ bE x r0 l A B) ∧ (if m_in (nI j) 16 = true then (if (x.1 (r0 + 1) j) = B then (if m_in (nI j) 16 = true then (if (x.1 (r0 + 2) j) = A then (some (nI j)) else (f_X6_between_L2 r0 A B n (nI (j + 1)) x)) else none) else (f_X6_between_L2 r0 A B n (nI (j + 1)) x)) else none) = some (-1)) := by
        intro h1
        rw [if_pos (in_ok hj (by decide))]
        by_cases c1 : x.1 (r0 + 1) j = B
        · rw [if_pos c1, if_pos (in_ok hj (by decide))]
          by_cases c2 : x.1 (r0 + 2) j = A
          · rw [if_pos c2]
            exact Or.inl ⟨j, by omega, Or.inr ⟨c1, c2⟩, rfl⟩
          · rw [if_neg c2]
            exact next (fun _ z => z.elim h1 (fun k => c2 k.2))
        · rw [if_neg c1]
          exact next (fun _ z => z.elim h1 (fun k => c1 k.1))
      by_cases c1 : x.1 (r0 + 1) j = A
      · rw [if_pos c1, if_pos (in_ok hj (by decide))]
        by_cases c2 : x.1 (r0 + 2) j = B
        · rw [if_pos c2]
          exact Or.inl ⟨j, by omega, Or.inl ⟨c1, c2⟩, rfl⟩
        · rw [if_neg c2]
          exact second (fun z => c2 z.2)
      · rw [if_neg c1]
        exact second (fun z => c1 z.1)
section V7
variable {σ : Nat → Int32} {np rt s d : Nat}
theorem between_x {a b r0 : Nat} (x : mX) (hR : sR x.1 r0 σ np rt) (hW : sW σ np) : (∃ l, l < sm σ ∧ sE σ l a b ∧ f_X6_between r0 (nI a) (nI b) x = some (nI l)) ∨ ((∀ l, l < sm σ → ¬ sE σ l a b) ∧ f_X6_between r0 (nI a) (nI b) x = some (-1)) := by
  have e : ∀ l, l < sm σ → (bE x r0 l (nI a) (nI b) ↔ sE σ l a b) := fun l hl => by
    have rl := hR.2.2.2.2.2.2.2.2.2.2 l hl
    unfold bE sE
    rw [rl.1, rl.2.1]
  rcases between_g x r0 (nI a) (nI b) (m := sm σ) (by rw [hR.2.1]; exact hW.2.1) hW.2.2.1 with ⟨l, l1, l2, l3⟩ | ⟨l1, l2⟩
  · exact Or.inl ⟨l, l1, (e l l1).mp l2, l3⟩
  · exact Or.inr ⟨fun l hl z => l1 l hl ((e l hl).mpr z), l2⟩
theorem cd_or {P Q : Nat → Prop} {m k : Nat} (hP : ∀ c, P c → c < 1000000) (hQ : ∀ c, Q c → c < 1000000) (hm : cd P m) (hk : cd Q k) : cd (fun c => P c ∨ Q c) (if k < m then k else m) := by
  by_cases h : k < m
  · rw [if_pos h]
    rcases hk with ⟨b1, b2⟩ | ⟨b1, b2⟩
    · refine Or.inl ⟨Or.inr b1, fun c hc => hc.elim (fun z => ?_) (b2 c)⟩
      rcases hm with ⟨a1, a2⟩ | ⟨a1, _⟩
      · have := a2 c z; omega
      · exact absurd z (a1 c)
    · refine Or.inr ⟨fun c hc => hc.elim (fun z => ?_) (b1 c), b2⟩
      rcases hm with ⟨a1, a2⟩ | ⟨a1, _⟩
      · have := hP m a1; omega
      · exact a1 c z
  · rw [if_neg h]
    rcases hm with ⟨a1, a2⟩ | ⟨a1, a2⟩
    · refine Or.inl ⟨Or.inl a1, fun c hc => hc.elim (a2 c) (fun z => ?_)⟩
      rcases hk with ⟨b1, b2⟩ | ⟨b1, _⟩
      · have := b2 c z; omega
      · exact absurd z (b1 c)
    · refine Or.inr ⟨fun c hc => hc.elim (a1 c) (fun z => ?_), a2⟩
      rcases hk with ⟨b1, b2⟩ | ⟨b1, _⟩
      · have := hQ k b1; omega
      · exact b1 c z
theorem bf_mr {W : Nat → Nat → Nat → Prop} {S : Nat → Prop} {v r : Nat} (h : bf_E W S s v r) : mr (fun c => om W S s v c) r := by
  rcases h with ⟨c, h1, rfl⟩ | h
  · exact Or.inl ⟨h1, fun c' h' => Nat.le_of_eq (om_un h1 h')⟩
  · exact Or.inr h
/-- the dealings seen: t to the one way, o to the other -/
def CP (σ : Nat → Int32) (M inner ends : Int32) (s d : Nat) (D : Nat → Prop) (j c : Nat) : Prop := D c ∨ ∃ t o c1 c2, t < j ∧ o < 256 ∧ t < o ∧ (∀ q, bt (nI t) q = true → bt inner q = true) ∧ (∀ q, bt (nI o) q = true ↔ bt inner q = true ∧ ¬ bt (nI t) q = true) ∧ om (sC σ M) (fun q => bt (nI t) q = true ∨ bt ends q = true) s d c1 ∧ om (sC σ M) (fun q => bt (nI o) q = true ∨ bt ends q = true) s d c2 ∧ c = c1 + c2
theorem two_L (hW : sW σ np) (hs : s < 8) (hd : d < 8) {M inner ends : Int32} (h8 : b8 inner) (hends : ∀ q, bt ends q = true ↔ q = s ∨ q = d) {D : Nat → Prop} (hD : ∀ c, D c → c < 1000000) (x : mX) (hR : sR x.1 14 σ np rt) {m0 : Nat} (hm0 : m0 ≤ 1000099) (h0 : cd D m0) : ∃ r x', f_X4_cheapestTwo_L91 (nI s) (nI d) ends inner M mF (nI m0) 0 x = some (nI r, x') ∧ xF pr_F x x' ∧ cd (fun c => CP σ M inner ends s d D 256 c) r ∧ r ≤ 1000099 := by
  have hWW := sC_W hW M
  have he8 : b8 ends := fun q hq => by rcases (hends q).mp hq with z | z <;> omega
  have hS8 : ∀ t, t < 256 → ∀ q, (bt (nI t) q = true ∨ bt ends q = true) → q < 8 := fun t ht q h => h.elim (b8_nI ht q) (he8 q)
  have hlt : ∀ j c, CP σ M inner ends s d D j c → c < 1000000 := fun j c h => by
    rcases h with h | ⟨t, o, c1, c2, h1, h2, h3, _, _, h4, h5, h6⟩
    · exact hD c h
    · have := (om_7 hWW (hS8 t (by omega)) h4).2
      have := (om_7 hWW (hS8 o h2) h5).2
      omega
  refine lp_up 256 (fun n b (t : Nat × mX) => f_X4_cheapestTwo_L91 (nI s) (nI d) ends inner M n (nI t.1) b t.2) (fun j t => xF pr_F x t.2 ∧ cd (fun c => CP σ M inner ends s d D j c) t.1 ∧ t.1 ≤ 1000099) (fun o => ∃ r x', o = some (nI r, x') ∧ xF pr_F x x' ∧ cd (fun c => CP σ M inner ends s d D 256 c) r ∧ r ≤ 1000099) ?_ ?_ mF 0 (m0, x) (by decide) (by decide) ⟨xF_rf _ _, ?_, hm0⟩
  · intro n t hI
    show ∃ r x', f_X4_cheapestTwo_L91 (nI s) (nI d) ends inner M (n + 1) (nI t.1) (nI 256) t.2 = some (nI r, x') ∧ _
    rw [f_X4_cheapestTwo_L91, if_pos (by decide)]
    exact ⟨t.1, t.2, rfl, hI⟩
  · rintro n j ⟨m, x1⟩ hj ⟨i1, i2, i3⟩ ih
    show ∃ r x', f_X4_cheapestTwo_L91 (nI s) (nI d) ends inner M (n + 1) (nI m) (nI j) x1 = some (nI r, x') ∧ _
    rw [f_X4_cheapestTwo_L91, if_neg (k256f hj), nI_1]
    have hm : m ≤ 1000099 := i3
    obtain ⟨o, ho, eo⟩ := b8_num (s := inner &&& (nI j ^^^ (-1 : Int32))) (b8_andl h8)
    have hob : ∀ q, bt (nI o) q = true ↔ bt inner q = true ∧ ¬ bt (nI j) q = true := fun q => by
      rw [← eo, b_wos, Bool.and_eq_true]; simp
    have skip : (∀ c1 c2, (∀ q, bt (nI j) q = true → bt inner q = true) → j < o → om (sC σ M) (fun q => bt (nI j) q = true ∨ bt ends q = true) s d c1 → om (sC σ M) (fun q => bt (nI o) q = true ∨ bt ends q = true) s d c2 → m ≤ c1 + c2) → ∀ x2, xF pr_F x x2 → ∃ r x', f_X4_cheapestTwo_L91 (nI s) (nI d) ends inner M n (nI m) (nI (j + 1)) x2 = some (nI r, x') ∧ xF pr_F x x' ∧ cd (fun c => CP σ M inner ends s d D 256 c) r ∧ r ≤ 1000099 := by
      intro hno x2 F2
      refine ih (m, x2) ⟨F2, ?_, i3⟩
      have hmem : ∀ c, CP σ M inner ends s d D (j + 1) c → CP σ M inner ends s d D j c ∨ (m ≤ c ∧ c < 1000000) := fun c h => by
        rcases h with h | ⟨t, o', c1, c2, h1, h2, h3, h4, h5, h6, h7, h8⟩
        · exact Or.inl (Or.inl h)
        · by_cases e : t = j
          · subst e
            have eo' : o' = o := b_inj h2 ho (fun q => (h5 q).trans (hob q).symm)
            subst eo'
            refine Or.inr ⟨by rw [h8]; exact hno c1 c2 h4 h3 h6 h7, ?_⟩
            have := (om_7 hWW (hS8 t (by omega)) h6).2
            have := (om_7 hWW (hS8 o' h2) h7).2
            omega
          · exact Or.inl (Or.inr ⟨t, o', c1, c2, by omega, h2, h3, h4, h5, h6, h7, h8⟩)
      have hsub : ∀ c, CP σ M inner ends s d D j c → CP σ M inner ends s d D (j + 1) c := fun c h => by
        rcases h with h | ⟨t, o', c1, c2, h1, h2⟩
        · exact Or.inl h
        · exact Or.inr ⟨t, o', c1, c2, by omega, h2⟩
      rcases i2 with ⟨a1, a2⟩ | ⟨a1, a2⟩
      · exact Or.inl ⟨hsub m a1, fun c hc => (hmem c hc).elim (a2 c) (fun z => z.1)⟩
      · refine Or.inr ⟨fun c hc => (hmem c hc).elim (a1 c) (fun z => ?_), a2⟩
        have h2 : 1000000 ≤ m := a2
        omega
    by_cases cs : (nI j &&& (inner ^^^ (-1 : Int32))) = 0
    · rw [if_pos cs, eo]
      rw [b_sub] at cs
      by_cases co : o ≤ j
      · rw [if_pos ((nI_leI (by omega) (by omega)).mpr co)]
        exact skip (fun c1 c2 _ h => by omega) x1 i1
      · rw [if_neg (fun z => co ((nI_leI (by omega) (by omega)).mp z))]
        have hR1 : sR x1.1 14 σ np rt := by
          have q : ∀ q, q ≠ 255 → x1.1 q = x.1 q := fun q hq => xF_row i1 (fun c z => hq z)
          unfold sR
          rw [q 14 (by decide), q (14 + 1) (by decide), q (14 + 2) (by decide), q (14 + 3) (by decide), q (14 + 4) (by decide)]
          exact hR
        obtain ⟨r7, x7, e7, F7, b7, l7⟩ := cheapest_ok (M := M) (Wi := nI j ||| ends) (S := fun q => bt (nI j) q = true ∨ bt ends q = true) (s := s) (d := d) hW (fun p => by rw [b_or, Bool.or_eq_true]) (hS8 j hj) (Or.inr ((hends s).mpr (Or.inl rfl))) hd x1 hR1
        rw [e7, Option.bind_some]
        dsimp only
        by_cases c7 : m ≤ r7
        · rw [if_pos ((nI_leI (by omega) (by omega)).mpr c7)]
          refine skip (fun c1 c2 _ _ h1 _ => ?_) x7 (xF_tr i1 F7)
          rcases b7 with ⟨c, k1, k2⟩ | ⟨k1, _⟩
          · have := om_un h1 k1; omega
          · exact absurd h1 (k1 c1)
        · rw [if_neg (fun z => c7 ((nI_leI (by omega) (by omega)).mp z))]
          have hR7 : sR x7.1 14 σ np rt := by
            have q : ∀ q, q ≠ 255 → x7.1 q = x1.1 q := fun q hq => xF_row F7 (fun c z => hq z)
            unfold sR
            rw [q 14 (by decide), q (14 + 1) (by decide), q (14 + 2) (by decide), q (14 + 3) (by decide), q (14 + 4) (by decide)]
            exact hR1
          obtain ⟨r8, x8, e8, F8, b8', l8⟩ := cheapest_ok (M := M) (Wi := nI o ||| ends) (S := fun q => bt (nI o) q = true ∨ bt ends q = true) (s := s) (d := d) hW (fun p => by rw [b_or, Bool.or_eq_true]) (hS8 o ho) (Or.inr ((hends s).mpr (Or.inl rfl))) hd x7 hR7
          rw [e8, Option.bind_some]
          dsimp only
          rw [nI_add]
          have hcd := cd_or (hlt j) (fun c (h : ∃ c1 c2, om (sC σ M) (fun q => bt (nI j) q = true ∨ bt ends q = true) s d c1 ∧ om (sC σ M) (fun q => bt (nI o) q = true ∨ bt ends q = true) s d c2 ∧ c = c1 + c2) => by
            obtain ⟨c1, c2, h1, h2, h3⟩ := h
            have := (om_7 hWW (hS8 j hj) h1).2
            have := (om_7 hWW (hS8 o ho) h2).2
            omega) i2 (mr_add (bf_mr b7) (bf_mr b8'))
          have eif : (if nI (r7 + r8) < nI m then nI (r7 + r8) else nI m) = nI (if r7 + r8 < m then r7 + r8 else m) := by
            by_cases c : r7 + r8 < m
            · rw [if_pos ((nI_ltI (by omega) (by omega)).mpr c), if_pos c]
            · rw [if_neg (fun z => c ((nI_ltI (by omega) (by omega)).mp z)), if_neg c]
          rw [eif]
          refine ih (_, x8) ⟨xF_tr i1 (xF_tr F7 F8), ?_, ?_⟩
          · have econg : (fun c => CP σ M inner ends s d D j c ∨ ∃ c1 c2, om (sC σ M) (fun q => bt (nI j) q = true ∨ bt ends q = true) s d c1 ∧ om (sC σ M) (fun q => bt (nI o) q = true ∨ bt ends q = true) s d c2 ∧ c = c1 + c2) = fun c => CP σ M inner ends s d D (j + 1) c := by
              funext c
              refine propext ⟨?_, ?_⟩
              · rintro ((h | ⟨t, o', c1, c2, h1, h2⟩) | ⟨c1, c2, h1, h2, h3⟩)
                · exact Or.inl h
                · exact Or.inr ⟨t, o', c1, c2, by omega, h2⟩
                · exact Or.inr ⟨j, o, c1, c2, by omega, ho, by omega, cs, hob, h1, h2, h3⟩
              · rintro (h | ⟨t, o', c1, c2, h1, h2, h3, h4, h5, h6, h7, h8⟩)
                · exact Or.inl (Or.inl h)
                · by_cases e : t = j
                  · subst e
                    have eo' : o' = o := b_inj h2 ho (fun q => (h5 q).trans (hob q).symm)
                    subst eo'
                    exact Or.inr ⟨c1, c2, h6, h7, h8⟩
                  · exact Or.inl (Or.inr ⟨t, o', c1, c2, by omega, h2, h3, h4, h5, h6, h7, h8⟩)
            rw [econg] at hcd
            exact hcd
          · show (if r7 + r8 < m then r7 + r8 else m) ≤ 1000099
            by_cases c : r7 + r8 < m
            · rw [if_pos c]; omega
            · rw [if_neg c]; omega
    · rw [if_neg cs]
      rw [b_sub] at cs
      exact skip (fun c1 c2 h => absurd h cs) x1 i1
  · have econg : D = fun c => CP σ M inner ends s d D 0 c := by
      funext c
      exact propext ⟨Or.inl, fun h => h.elim id (fun ⟨t, o, c1, c2, h, _⟩ => by omega)⟩
    show cd (fun c => CP σ M inner ends s d D 0 c) m0
    rw [← econg]
    exact h0
end V7
