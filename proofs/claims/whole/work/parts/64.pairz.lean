/-! ===== pair: the two alike ===== -/
section V8
variable {W W' : Nat → Nat → Nat → Prop} {T : Nat → Prop} {σ : Nat → Int32} {np rt s d : Nat} {L M may inner ends : Int32}
theorem pw_map {p c : Nat} (hm : ∀ u v w, W u v w → T v → W' u v w) (h : pw W s T p c) : pw W' s T p c := by
  obtain ⟨n, f, g, h1, h2, h3, h4, h5, h6, h7, h8⟩ := h
  refine ⟨n, f, g, h1, h2, h3, h4, h5, fun j hj => ?_, h7, h8⟩
  obtain ⟨w, w1, w2⟩ := h6 j hj
  exact ⟨w, hm _ _ _ w1 ((h8 _).mpr ⟨j + 1, by omega, by omega, rfl⟩), w2⟩
theorem pw_p {p c : Nat} (h : pw W s T p c) : T p := (pw_rec.mp h).1
theorem pv_less (hM : ∀ u v w, W' u v w ↔ W u v w ∧ ¬ (u = s ∧ v = d) ∧ ¬ (u = d ∧ v = s)) (hT : ∀ q, T q → q ≠ s ∧ q ≠ d) (hne : ∃ q, T q) {c : Nat} (h : pv W s d T c) : pv W' s d T c := by
  rcases h with ⟨h, _⟩ | ⟨p, c', w, h1, h2, h3⟩
  · obtain ⟨q, hq⟩ := hne
    exact absurd hq (h q)
  · have hp := hT p (pw_p h1)
    exact Or.inr ⟨p, c', w, pw_map (fun u v w hw hv => (hM u v w).mpr ⟨hw, fun z => (hT v hv).2 z.2, fun z => (hT v hv).1 z.2⟩) h1, (hM p d w).mpr ⟨h2, fun z => hp.1 z.1, fun z => hp.2 z.1⟩, h3⟩
theorem pv_more (hM : ∀ u v w, W' u v w ↔ W u v w ∧ ¬ (u = s ∧ v = d) ∧ ¬ (u = d ∧ v = s)) {c : Nat} (h : pv W' s d T c) : pv W s d T c ∧ ∃ q, T q := by
  rcases h with ⟨_, h⟩ | ⟨p, c', w, h1, h2, h3⟩
  · exact absurd ⟨rfl, rfl⟩ ((hM s d c).mp h).2.1
  · exact ⟨Or.inr ⟨p, c', w, pw_map (fun u v w hw _ => ((hM u v w).mp hw).1) h1, ((hM p d w).mp h2).1, h3⟩, p, pw_p h1⟩
/-- what the dealings rest on -/
def pz_H (σ : Nat → Int32) (L M may inner ends : Int32) (s d : Nat) (D : Nat → Prop) : Prop :=
  (∀ u v w, sC σ M u v w ↔ sC σ L u v w ∧ ¬ (u = s ∧ v = d) ∧ ¬ (u = d ∧ v = s)) ∧ (∀ c, D c ↔ ∃ p c', sC σ L s d p ∧ om (sC σ M) (bS (σ 0)) s d c' ∧ c = p + c') ∧ (∀ q, bt may q = true ↔ bt (σ 0) q = true ∧ q ≠ s ∧ q ≠ d) ∧ (∀ q, bt inner q = true ↔ bt (σ 0) q = true ∧ q ≠ s ∧ q ≠ d) ∧ (∀ q, bt ends q = true ↔ q = s ∨ q = d) ∧ b8 (σ 0) ∧ s ≠ d ∧ bt (σ 0) s = true ∧ bt (σ 0) d = true
theorem nI_bits0 {t : Nat} (ht : t < 256) (h : ∃ q, bt (nI t) q = true) : 0 < t := by
  obtain ⟨q, hq⟩ := h
  rcases Nat.eq_zero_or_pos t with e | e
  · rw [e, nI_0, b_0] at hq; cases hq
  · exact e
theorem pair_ab (hW : sW σ np) {D : Nat → Prop} (h : pz_H σ L M may inner ends s d D) {c : Nat} (hc : CP σ M inner ends s d D 256 c) : ∃ c', c' ≤ c ∧ PP σ L may s d 256 c' := by
  obtain ⟨hM, hD, hmay, hin, hen, h8, hsd, hs, hd⟩ := h
  have hWM := sC_W hW M
  have set : ∀ (S : Nat → Prop) c1, (∀ q, S q → q = s ∨ q = d ∨ bt may q = true) → om (sC σ M) S s d c1 → ∃ a, a < 256 ∧ 0 < a ∧ PV σ L may s d a c1 ∧ ∀ q, bt (nI a) q = true → S q ∧ bt may q = true := by
    intro S c1 hS ho
    obtain ⟨T, t1, t2⟩ := om_pv hWM hsd ho
    obtain ⟨k1, k2⟩ := pv_more hM t2
    have hTm : ∀ q, T q → bt may q = true := fun q hq => by
      have := t1 q hq
      rcases hS q this.1 with z | z | z
      · exact absurd z this.2.1
      · exact absurd z this.2.2
      · exact z
    obtain ⟨a, ha, hb⟩ := b_mk T
    have e : bS (nI a) = T := funext fun q => propext ((hb q).trans ⟨fun z => z.2, fun z => ⟨h8 q ((hmay q).mp (hTm q z)).1, z⟩⟩)
    refine ⟨a, ha, nI_bits0 ha (by obtain ⟨q, hq⟩ := k2; exact ⟨q, by show bS (nI a) q; rw [e]; exact hq⟩), ⟨fun q hq => hTm q (by rw [← e]; exact hq), by rw [e]; exact k1⟩, fun q hq => ?_⟩
    have hq' : T q := by rw [← e]; exact hq
    exact ⟨(t1 q hq').1, hTm q hq'⟩
  rcases hc with hc | ⟨t, o, c1, c2, h1, h2, h3, h4, h5, h6, h7, h9⟩
  · obtain ⟨p, c', p1, p2, p3⟩ := (hD c).mp hc
    obtain ⟨a, a1, a2, a3, _⟩ := set (bS (σ 0)) c' (fun q hq => by
      by_cases e1 : q = s
      · exact Or.inl e1
      · by_cases e2 : q = d
        · exact Or.inr (Or.inl e2)
        · exact Or.inr (Or.inr ((hmay q).mpr ⟨hq, e1, e2⟩))) p2
    have no0 : ∀ q, ¬ bt (nI 0) q = true := fun q => by rw [nI_0, b_0]; decide
    exact ⟨c, Nat.le_refl _, a, 0, c', p, a1, a2, fun q _ => no0 q, a3, ⟨fun q hq => absurd hq (no0 q), Or.inl ⟨no0, p1⟩⟩, by omega⟩
  · have hin2 : ∀ q, bt inner q = true → bt may q = true := fun q hq => (hmay q).mpr ((hin q).mp hq)
    have sel : ∀ n, (∀ q, bt (nI n) q = true → bt inner q = true) → ∀ q, (bt (nI n) q = true ∨ bt ends q = true) → q = s ∨ q = d ∨ bt may q = true := fun n hn q hq => by
      rcases hq with z | z
      · exact Or.inr (Or.inr (hin2 q (hn q z)))
      · rcases (hen q).mp z with e | e
        · exact Or.inl e
        · exact Or.inr (Or.inl e)
    obtain ⟨a, a1, a2, a3, a4⟩ := set _ c1 (sel t h4) h6
    obtain ⟨b, b1, b2, b3, b4⟩ := set _ c2 (sel o (fun q hq => ((h5 q).mp hq).1)) h7
    have own : ∀ n q, (bt (nI n) q = true ∨ bt ends q = true) ∧ bt may q = true → bt (nI n) q = true := fun n q hq => by
      rcases hq.1 with z | z
      · exact z
      · have := (hmay q).mp hq.2
        rcases (hen q).mp z with e | e
        · exact absurd e this.2.1
        · exact absurd e this.2.2
    have hdj : dj a b := fun q qa qb => ((h5 q).mp (own o q (b4 q qb))).2 (own t q (a4 q qa))
    have hne : a ≠ b := fun e => by
      obtain ⟨q, hq⟩ : ∃ q, bt (nI a) q = true := Classical.byContradiction fun hc => by
        have : nI a = 0 := b_eq0 (fun q hq => hc ⟨q, hq⟩)
        exact nI_ne0 a2 (by omega) this
      exact hdj q hq (e ▸ hq)
    rcases Nat.lt_or_ge b a with e | e
    · exact ⟨c, Nat.le_refl _, a, b, c1, c2, a1, e, hdj, a3, b3, h9⟩
    · exact ⟨c, Nat.le_refl _, b, a, c2, c1, b1, by omega, fun q q1 q2 => hdj q q2 q1, b3, a3, by omega⟩
theorem pair_ba (hW : sW σ np) {D : Nat → Prop} (h : pz_H σ L M may inner ends s d D) {c : Nat} (hc : PP σ L may s d 256 c) : ∃ c', c' ≤ c ∧ CP σ M inner ends s d D 256 c' := by
  obtain ⟨hM, hD, hmay, hin, hen, h8, hsd, hs, hd⟩ := h
  have hWM := sC_W hW M
  obtain ⟨a, b, c1, c2, a1, a2, hdj, pa, pb, ec⟩ := hc
  have walk : ∀ n c1 (S : Nat → Prop), n < 256 → 0 < n → PV σ L may s d n c1 → (∀ q, bt (nI n) q = true → S q) → S s → S d → ∃ c', c' ≤ c1 ∧ om (sC σ M) S s d c' := by
    intro n c1 S hn hn0 hp hS hs' hd'
    have hex : ∃ q, bS (nI n) q := Classical.byContradiction fun hc => by
      have : nI n = 0 := b_eq0 (fun q hq => hc ⟨q, hq⟩)
      exact nI_ne0 hn0 (by omega) this
    have k := pv_less hM (fun q hq => ((hmay q).mp (hp.1 q hq)).2) hex hp.2
    obtain ⟨m, hm⟩ := pv_wk hWM hs' hd' hS k
    obtain ⟨c', hc'⟩ := om_ex hm
    exact ⟨c', hc'.2 m c1 hm, hc'⟩
  by_cases b0 : b = 0
  · subst b0
    have no0 : ∀ q, ¬ bt (nI 0) q = true := fun q => by rw [nI_0, b_0]; decide
    have hsC : sC σ L s d c2 := by
      rcases pb.2 with ⟨_, z⟩ | ⟨p, c', w, z, _⟩
      · exact z
      · exact absurd (pw_p z) (no0 p)
    obtain ⟨c', k1, k2⟩ := walk a c1 (bS (σ 0)) a1 a2 pa (fun q hq => ((hmay q).mp (pa.1 q hq)).1) hs hd
    exact ⟨c2 + c', by omega, Or.inl ((hD _).mpr ⟨c2, c', hsC, k2, rfl⟩)⟩
  · have hs' : bt ends s = true := (hen s).mpr (Or.inl rfl)
    have hd' : bt ends d = true := (hen d).mpr (Or.inr rfl)
    have minn : ∀ q, bt may q = true → bt inner q = true := fun q hq => (hin q).mpr ((hmay q).mp hq)
    obtain ⟨o, ho, hob⟩ := b_mk (fun q => bt inner q = true ∧ ¬ bt (nI a) q = true)
    have hob' : ∀ q, bt (nI o) q = true ↔ bt inner q = true ∧ ¬ bt (nI a) q = true := fun q => (hob q).trans ⟨fun z => z.2, fun z => ⟨h8 q ((hin q).mp z.1).1, z⟩⟩
    have hb_o : ∀ q, bt (nI b) q = true → bt (nI o) q = true := fun q hq => (hob' q).mpr ⟨minn q (pb.1 q hq), fun z => hdj q z hq⟩
    have ha_i : ∀ q, bt (nI a) q = true → bt inner q = true := fun q hq => minn q (pa.1 q hq)
    obtain ⟨k1, l1, l2⟩ := walk a c1 (fun q => bt (nI a) q = true ∨ bt ends q = true) a1 (by omega) pa (fun q hq => Or.inl hq) (Or.inr hs') (Or.inr hd')
    obtain ⟨k2, m1, m2⟩ := walk b c2 (fun q => bt (nI o) q = true ∨ bt ends q = true) (by omega) (by omega) pb (fun q hq => Or.inl (hb_o q hq)) (Or.inr hs') (Or.inr hd')
    have hne : a ≠ o := fun e => by
      obtain ⟨q, hq⟩ : ∃ q, bt (nI a) q = true := Classical.byContradiction fun hc => by
        have : nI a = 0 := b_eq0 (fun q hq => hc ⟨q, hq⟩)
        exact nI_ne0 (by omega) (by omega) this
      exact ((hob' q).mp (e ▸ hq)).2 hq
    rcases Nat.lt_or_ge a o with e | e
    · exact ⟨k1 + k2, by omega, Or.inr ⟨a, o, k1, k2, a1, ho, e, ha_i, hob', l2, m2, rfl⟩⟩
    · refine ⟨k2 + k1, by omega, Or.inr ⟨o, a, k2, k1, ho, a1, by omega, fun q hq => ((hob' q).mp hq).1, fun q => ?_, m2, l2, rfl⟩⟩
      constructor
      · intro hq
        exact ⟨ha_i q hq, fun z => ((hob' q).mp z).2 hq⟩
      · rintro ⟨z1, z2⟩
        exact Classical.byContradiction fun z => z2 ((hob' q).mpr ⟨z1, z⟩)
theorem pair_same (hW : sW σ np) {D : Nat → Prop} (h : pz_H σ L M may inner ends s d D) {v r : Nat} (hv : cd (fun c => CP σ M inner ends s d D 256 c) v) (hr : mr (fun c => PP σ L may s d 256 c) r) : (if v < 1000000 then nI v else (-2 : Int32)) = if r < 1000000 then nI r else -2 := by
  rcases hr with ⟨r1, r2⟩ | ⟨r1, r2⟩
  · have hr6 := PP_lt hW r1
    obtain ⟨c', k1, k2⟩ := pair_ba hW h r1
    rcases hv with ⟨v1, v2⟩ | ⟨v1, _⟩
    · have e1 := v2 c' k2
      obtain ⟨c'', q1, q2⟩ := pair_ab hW h v1
      have e2 := r2 c'' q2
      rw [show v = r by omega]
    · exact absurd k2 (v1 c')
  · rw [if_neg (show ¬ r < 1000000 by omega)]
    rcases hv with ⟨v1, v2⟩ | ⟨_, v2⟩
    · obtain ⟨c'', q1, q2⟩ := pair_ab hW h v1
      exact absurd q2 (r1 c'')
    · rw [if_neg (by omega)]
/-- the class's cheapestTwo -/
theorem cheapestTwo_ok (hW : sW σ np) (hs : s < 8) (hd : d < 8) (hsd : s ≠ d) (hos : bt (σ 0) s = true) (hod : bt (σ 0) d = true) (hmay : ∀ q, bt may q = true ↔ bt (σ 0) q = true ∧ q ≠ s ∧ q ≠ d) (x : mX) (hR : sR x.1 14 σ np rt) (hL : sL σ L) : ∃ v x', f_X4_cheapestTwo (nI s) (nI d) x = some (nI v, x') ∧ xF pr_F x x' ∧ v ≤ 1000099 ∧ ∀ r, mr (fun c => PP σ L may s d 256 c) r → (if v < 1000000 then nI v else (-2 : Int32)) = if r < 1000000 then nI r else -2 := by
  have h80 : b8 (σ 0) := fun i hi => Nat.lt_of_lt_of_le (hW.2.2.2.1 i hi) hW.1
  have hends : ∀ q, bt (((1 : Int32) <<< (nI s &&& 31)) ||| ((1 : Int32) <<< (nI d &&& 31))) q = true ↔ q = s ∨ q = d := fun q => by
    rw [b_or, b_bit (by omega), b_bit (by omega), Bool.or_eq_true, decide_eq_true_eq, decide_eq_true_eq]
  have hinn : ∀ q, bt ((x.1 14 2) &&& ((((1 : Int32) <<< (nI s &&& 31)) ||| ((1 : Int32) <<< (nI d &&& 31))) ^^^ (-1 : Int32))) q = true ↔ bt (σ 0) q = true ∧ q ≠ s ∧ q ≠ d := fun q => by
    rw [b_wos, Bool.and_eq_true, hR.2.2.1]
    refine and_congr Iff.rfl ?_
    have := hends q
    constructor
    · intro z
      have hn : ¬ bt (((1 : Int32) <<< (nI s &&& 31)) ||| ((1 : Int32) <<< (nI d &&& 31))) q = true := by simpa using z
      exact ⟨fun e => hn (this.mpr (Or.inl e)), fun e => hn (this.mpr (Or.inr e))⟩
    · rintro ⟨z1, z2⟩
      have hn : ¬ bt (((1 : Int32) <<< (nI s &&& 31)) ||| ((1 : Int32) <<< (nI d &&& 31))) q = true := fun z => (this.mp z).elim z1 z2
      simpa using hn
  have hinn8 : b8 ((x.1 14 2) &&& ((((1 : Int32) <<< (nI s &&& 31)) ||| ((1 : Int32) <<< (nI d &&& 31))) ^^^ (-1 : Int32))) := fun q hq => h80 q ((hinn q).mp hq).1
  have hon8 : ∀ p, bS (σ 0) p → p < 8 := fun p hp => h80 p hp
  unfold f_X4_cheapestTwo
  obtain ⟨V, v1, v2⟩ := live_ok x hR hW
  rw [sL_un v2 hL] at v1
  rw [v1, Option.bind_some]
  have nod : ∀ o, f_X6_between 14 (nI s) (nI d) x = some o → (∀ w, ¬ sC σ L s d w) → (o = -1 ∨ (o ≠ -1 ∧ f_X10_has L o = 0)) → ∃ v x', (f_X6_between 14 (nI s) (nI d) x).bind (fun q2 => (m_jn (fun (z : Int32 × Int32 × mX) => match z with | (v4, v5, x6) => (f_X4_cheapestTwo_L91 (nI s) (nI d) (((1 : Int32) <<< (nI s &&& 31)) ||| ((1 : Int32) <<< (nI d &&& 31))) ((x.1 14 2) &&& ((((1 : Int32) <<< (nI s &&& 31)) ||| ((1 : Int32) <<< (nI d &&& 31))) ^^^ (-1 : Int32))) v4 mF v5 (0 : Int32) x6)) (fun j3 => if q2 = (-1 : Int32) then (j3 (L, (1000000 : Int32), x)) else (if (f_X10_has L q2) = 0 then (j3 (L, (1000000 : Int32), x)) else (if m_in q2 16 = true then ((f_X4_cheapest (L &&& (((1 : Int32) <<< (q2 &&& 31)) ^^^ (-1 : Int32))) (nI s) (nI d) (x.1 14 2) x).bind fun q9 => (j3 ((L &&& (((1 : Int32) <<< (q2 &&& 31)) ^^^ (-1 : Int32))), ((x.1 17 q2.toNatClampNeg) + q9.1), q9.2))) else none))))) = some (nI v, x') ∧ xF pr_F x x' ∧ v ≤ 1000099 ∧ ∀ r, mr (fun c => PP σ L may s d 256 c) r → (if v < 1000000 then nI v else (-2 : Int32)) = if r < 1000000 then nI r else -2 := by
    intro o ho hno hcase
    obtain ⟨v, x', t1, t2, t3, t4⟩ := two_L (M := L) (D := fun _ => False) hW hs hd hinn8 hends (fun c h => h.elim) x hR (m0 := 1000000) (by omega) (Or.inr ⟨fun c h => h, Nat.le_refl _⟩)
    have hz : pz_H σ L L may ((x.1 14 2) &&& ((((1 : Int32) <<< (nI s &&& 31)) ||| ((1 : Int32) <<< (nI d &&& 31))) ^^^ (-1 : Int32))) (((1 : Int32) <<< (nI s &&& 31)) ||| ((1 : Int32) <<< (nI d &&& 31))) s d (fun _ => False) := by
      refine ⟨fun u v w => ⟨fun h => ⟨h, ?_, ?_⟩, fun h => h.1⟩, fun c => ⟨fun h => h.elim, fun ⟨p, c', h, _⟩ => hno p h⟩, hmay, hinn, hends, h80, hsd, hos, hod⟩
      · rintro ⟨rfl, rfl⟩; exact hno w h
      · rintro ⟨rfl, rfl⟩; exact hno w ((sC_W hW L).1 _ _ _ h).1
    rw [ho, Option.bind_some, m_jn]
    refine ⟨v, x', ?_, t2, t4, fun r hr => pair_same hW hz t3 hr⟩
    rcases hcase with e | ⟨e1, e2⟩
    · rw [if_pos e]; exact t1
    · rw [if_neg e1, if_pos e2]; exact t1
  rcases between_x (a := s) (b := d) x hR hW with ⟨l, l1, l2, l3⟩ | ⟨l1, l2⟩
  · have hl16 : l < 16 := Nat.lt_of_lt_of_le l1 hW.2.2.1
    by_cases cl1 : bt L l = true
    · obtain ⟨p, p1, p2, p3⟩ := hW.2.2.2.2.2.2.2.2 l l1
      have rl := hR.2.2.2.2.2.2.2.2.2.2 l l1
      have hkey : ∀ k, bt (L &&& (((1 : Int32) <<< (nI l &&& 31)) ^^^ (-1 : Int32))) k = true ↔ bt L k = true ∧ k ≠ l := fun k => by
        rw [b_wo (by omega)]; simp
      have hM : ∀ u v w, sC σ (L &&& (((1 : Int32) <<< (nI l &&& 31)) ^^^ (-1 : Int32))) u v w ↔ sC σ L u v w ∧ ¬ (u = s ∧ v = d) ∧ ¬ (u = d ∧ v = s) := fun u v w => by
        constructor
        · rintro ⟨hu, hv, k, k1, k2, k3, k4⟩
          have kk := (hkey k).mp k2
          refine ⟨⟨hu, hv, k, k1, kk.1, k3, k4⟩, ?_, ?_⟩
          · rintro ⟨rfl, rfl⟩
            exact kk.2 (hW.2.2.2.2.2.2.2.1 k l u v k1 l1 hu hv k3 l2)
          · rintro ⟨rfl, rfl⟩
            exact kk.2 (hW.2.2.2.2.2.2.2.1 k l u v k1 l1 hu hv k3 (sE_sy l2))
        · rintro ⟨⟨hu, hv, k, k1, k2, k3, k4⟩, n1, n2⟩
          refine ⟨hu, hv, k, k1, (hkey k).mpr ⟨k2, ?_⟩, k3, k4⟩
          rintro rfl
          obtain ⟨a, b, ha, hb, hab, e1, e2⟩ := hW.2.2.2.2.2.2.1 k k1
          have h8 := hW.1
          have q1 := (sE_iff (by omega) (by omega) hs hd e1 e2).mp l2
          have q2 := (sE_iff (by omega) (by omega) hu hv e1 e2).mp k3
          omega
      have hsC : sC σ L s d p := ⟨hs, hd, l, l1, cl1, l2, p3, p1, p2⟩
      obtain ⟨r9, x9, e9, F9, b9, l9⟩ := cheapest_ok (M := L &&& (((1 : Int32) <<< (nI l &&& 31)) ^^^ (-1 : Int32))) (Wi := σ 0) (S := bS (σ 0)) (s := s) (d := d) hW (fun p => Iff.rfl) hon8 hos hd x hR
      have hR9 : sR x9.1 14 σ np rt := by
        have q : ∀ q, q ≠ 255 → x9.1 q = x.1 q := fun q hq => xF_row F9 (fun c z => hq z)
        unfold sR
        rw [q 14 (by decide), q (14 + 1) (by decide), q (14 + 2) (by decide), q (14 + 3) (by decide), q (14 + 4) (by decide)]
        exact hR
      have hDlt : ∀ c, (∃ p c', sC σ L s d p ∧ om (sC σ (L &&& (((1 : Int32) <<< (nI l &&& 31)) ^^^ (-1 : Int32)))) (bS (σ 0)) s d c' ∧ c = p + c') → c < 1000000 := fun c ⟨p', c', h1, h2, h3⟩ => by
        have := (om_7 (sC_W hW _) hon8 h2).2
        have := ((sC_W hW L).1 _ _ _ h1).2.2.1
        omega
      have hcd0 : cd (fun c => ∃ p c', sC σ L s d p ∧ om (sC σ (L &&& (((1 : Int32) <<< (nI l &&& 31)) ^^^ (-1 : Int32)))) (bS (σ 0)) s d c' ∧ c = p + c') (p + r9) := by
        rcases b9 with ⟨c, k1, rfl⟩ | ⟨k1, k2⟩
        · refine Or.inl ⟨⟨p, r9, hsC, k1, rfl⟩, ?_⟩
          rintro c ⟨p', c', h1, h2, h3⟩
          have := (sC_W hW L).2 _ _ _ _ h1 hsC
          have := om_un h2 k1
          omega
        · exact Or.inr ⟨fun c ⟨p', c', _, h2, _⟩ => k1 c' h2, by omega⟩
      obtain ⟨v, x', t1, t2, t3, t4⟩ := two_L (M := L &&& (((1 : Int32) <<< (nI l &&& 31)) ^^^ (-1 : Int32))) hW hs hd hinn8 hends hDlt x9 hR9 (m0 := p + r9) (by omega) hcd0
      have hz : pz_H σ L (L &&& (((1 : Int32) <<< (nI l &&& 31)) ^^^ (-1 : Int32))) may ((x.1 14 2) &&& ((((1 : Int32) <<< (nI s &&& 31)) ||| ((1 : Int32) <<< (nI d &&& 31))) ^^^ (-1 : Int32))) (((1 : Int32) <<< (nI s &&& 31)) ||| ((1 : Int32) <<< (nI d &&& 31))) s d _ := ⟨hM, fun c => Iff.rfl, hmay, hinn, hends, h80, hsd, hos, hod⟩
      rw [l3, Option.bind_some, m_jn, if_neg (nI_m1 (by omega)), if_neg (h10t (by omega) cl1), if_pos (in_ok hl16 (by decide)), hR.2.2.1, e9, Option.bind_some]
      dsimp only
      rw [cl (by omega), show x.1 17 l = nI p from rl.2.2.1.trans p3, nI_add]
      rw [hR.2.2.1] at t1 t3 hz
      exact ⟨v, x', t1, xF_tr F9 t2, t4, fun r hr => pair_same hW hz t3 hr⟩
    · refine nod (nI l) l3 (fun w ⟨_, _, k, k1, k2, k3, _⟩ => cl1 ?_) (Or.inr ⟨nI_m1 (by omega), h10f (by omega) cl1⟩)
      rw [← hW.2.2.2.2.2.2.2.1 k l s d k1 l1 hs hd k3 l2]
      exact k2
  · exact nod (-1) l2 (fun w ⟨_, _, k, k1, _, k3, _⟩ => l1 k k1 k3) (Or.inl rfl)
end V8
