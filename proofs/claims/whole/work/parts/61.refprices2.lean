/-! ===== the reference's laysWays, cheap, pair ===== -/
section V5
variable {σ : Nat → Int32} {L may : Int32} {np s d : Nat}
/-- a way with just the posts of the set t between, all of them posts that may be -/
def PV (σ : Nat → Int32) (L may : Int32) (s d t c : Nat) : Prop := (∀ q, bt (nI t) q = true → bt may q = true) ∧ pv (sC σ L) s d (bS (nI t)) c
def PVj (σ : Nat → Int32) (L may : Int32) (s d t j c : Nat) : Prop := (∀ q, bt (nI t) q = true → bt may q = true) ∧ (((∀ q, ¬ bt (nI t) q = true) ∧ sC σ L s d c) ∨ ∃ p c' w, p < j ∧ pw (sC σ L) s (bS (nI t)) p c' ∧ sC σ L p d w ∧ c = c' + w)
theorem PVj_lt (hW : sW σ np) {t j c : Nat} (h : PVj σ L may s d t j c) : c < 1000000 := by
  have hWW := sC_W hW L
  rcases h.2 with ⟨_, h⟩ | ⟨p, c', w, _, h1, h2, h3⟩
  · have := (hWW.1 _ _ _ h).2.2.1; omega
  · have := pw_lt hWW h1
    have := (hWW.1 _ _ _ h2).2.2.1
    omega
theorem PVj_8 (hW : sW σ np) {t c : Nat} : PVj σ L may s d t 8 c ↔ PV σ L may s d t c := by
  have hWW := sC_W hW L
  refine and_congr Iff.rfl (or_congr Iff.rfl ⟨fun ⟨p, c', w, _, h⟩ => ⟨p, c', w, h⟩, fun ⟨p, c', w, h1, h2, h3⟩ => ⟨p, c', w, (hWW.1 _ _ _ h2).2.2.2.1, h1, h2, h3⟩⟩)
/-- one set -/
theorem ways_2 (hW : sW σ np) (hL : ∀ l, bt L l = true → l < sm σ) (hs : s < 8) (hd : d < 8) {t : Nat} (ht : t < 256) (y : mY) (hy : nY0 y σ L) (hprev : ∀ t', t' < t → (∀ q, bt (nI t') q = true → bt may q = true) → bl_ok y (sC σ L) s t') {r0 : Nat} (h312 : y.1 312 t = nI r0) (h0 : mr (fun c => PVj σ L may s d t 0 c) r0) {Q : Option mY → Prop} (kk : mY → Option mY) (hq : ∀ y', yF (fun q c => (q = 311 ∧ 8 * t ≤ c ∧ c < 8 * t + 8) ∨ (q = 312 ∧ c = t)) y y' → ((∀ q, bt (nI t) q = true → bt may q = true) → bl_ok y' (sC σ L) s t) → (∃ r, y'.1 312 t = nI r ∧ mr (fun c => PV σ L may s d t c) r ∧ r ≤ 1000000) → Q (kk y')) : Q (f_X11_laysWays_L63 (nI s) (nI d) may (nI t) mF 0 y kk) := by
  have hWW := sC_W hW L
  refine lp_up 8 (fun n j s' => f_X11_laysWays_L63 (nI s) (nI d) may (nI t) n j s' kk) (fun j s' => yF (fun q c => (q = 311 ∧ 8 * t ≤ c ∧ c < 8 * t + 8) ∨ (q = 312 ∧ c = t)) y s' ∧ ((∀ q, bt (nI t) q = true → bt may q = true) → ∀ p, p < j → bt (nI t) p = true → ∃ r, s'.1 311 (8 * t + p) = nI r ∧ mr (fun c => pw (sC σ L) s (bS (nI t)) p c) r ∧ r ≤ 1000000) ∧ ∃ r, s'.1 312 t = nI r ∧ mr (fun c => PVj σ L may s d t j c) r) Q ?_ ?_ mF 0 y (by decide) (by decide) ⟨yF_rf _ _, fun _ p hp => by omega, r0, h312, h0⟩
  · rintro n s' ⟨i1, i2, r, i3, i4⟩
    show Q (f_X11_laysWays_L63 (nI s) (nI d) may (nI t) (n + 1) (nI 8) s' kk)
    rw [f_X11_laysWays_L63, if_pos (by decide)]
    exact hq s' i1 i2 ⟨r, i3, (mr_cong (fun c => PVj_8 hW)).mp i4, mr_le (fun c hc => PVj_lt hW hc) i4⟩
  · rintro n j s' hj ⟨i1, i2, r, i3, i4⟩ ih
    show Q (f_X11_laysWays_L63 (nI s) (nI d) may (nI t) (n + 1) (nI j) s' kk)
    have hrl := mr_le (fun c hc => PVj_lt hW hc) i4
    rw [f_X11_laysWays_L63, if_neg (k8f hj), show (8 : Int32) * nI t = nI (8 * t) from pk_mul 8 t, nI_add, if_pos (in_ok (by omega) (by decide)), cl (by omega), m_let, nI_1]
    have F5 : yF (fun q c => (q = 311 ∧ 8 * t ≤ c ∧ c < 8 * t + 8) ∨ (q = 312 ∧ c = t)) y (m_ys s' 311 (8 * t + j) 1000000) := yF_set i1 (Or.inl ⟨rfl, by omega, by omega⟩)
    have hy5 : nY0 (m_ys s' 311 (8 * t + j) 1000000) σ L := nY0_F (yF_mo F5 (fun q c z => by rcases z with z | z; exact Or.inl z.1; exact Or.inr z.1)) hy
    have skip : ¬ ((∀ q, bt (nI t) q = true → bt may q = true) ∧ bt (nI t) j = true) → Q (f_X11_laysWays_L63 (nI s) (nI d) may (nI t) n (nI (j + 1)) (m_ys s' 311 (8 * t + j) 1000000) kk) := by
      intro hno
      refine ih _ ⟨F5, fun hm p hp hb => ?_, r, by rw [ys_ne (by decide)]; exact i3, (mr_cong (fun c => ?_)).mp i4⟩
      · rw [ys_at]
        by_cases e : p = j
        · exact absurd ⟨hm, e ▸ hb⟩ hno
        · rw [if_neg (by omega)]; exact i2 hm p (by omega) hb
      · constructor
        · rintro ⟨h1, h2 | ⟨p, c', w, h2, h3⟩⟩
          · exact ⟨h1, Or.inl h2⟩
          · exact ⟨h1, Or.inr ⟨p, c', w, by omega, h3⟩⟩
        · rintro ⟨h1, h2 | ⟨p, c', w, h2, h3⟩⟩
          · exact ⟨h1, Or.inl h2⟩
          · refine ⟨h1, Or.inr ⟨p, c', w, ?_, h3⟩⟩
            have : p ≠ j := fun e => hno ⟨h1, e ▸ (pw_rec.mp h3.1).1⟩
            omega
    by_cases cm : (nI t &&& (may ^^^ (-1 : Int32))) = 0
    · rw [if_pos cm]
      rw [b_sub] at cm
      by_cases cb : bt (nI t) j = true
      · rw [if_neg (h11t (by omega) cb), m_jn]
        obtain ⟨rs, hrs, ers⟩ := b8_num (s := nI t &&& (((1 : Int32) <<< (nI j &&& 31)) ^^^ (-1 : Int32))) (b8_andl (b8_nI ht))
        have hrb : ∀ q, bt (nI rs) q = true ↔ bt (nI t) q = true ∧ q ≠ j := fun q => by
          rw [← ers, b_wo (by omega), Bool.and_eq_true]; simp
        have hbS : bS (nI rs) = fun r => bS (nI t) r ∧ r ≠ j := funext fun q => propext (hrb q)
        have hrt : rs < t := by
          have h1 := b_le hrs ht (fun i hi => ((hrb i).mp hi).1)
          have h2 : rs ≠ t := fun e => by
            rw [e] at hrb
            exact ((hrb j).mp cb).2 rfl
          omega
        rw [ers]
        have hbl : bl_ok (m_ys s' 311 (8 * t + j) 1000000) (sC σ L) s rs := fun p hp hb => by
          obtain ⟨r', a1, a2, a3⟩ := hprev rs hrt (fun q hq => cm q ((hrb q).mp hq).1) p hp hb
          refine ⟨r', ?_, a2, a3⟩
          rw [F5.1 311 (8 * rs + p) (fun z => by omega)]
          exact a1
        have cont : ∀ r1, mr (fun c => (∀ q, bS (nI t) q ↔ q = j) ∧ sC σ L s j c) r1 → Q (f_X11_laysWays_L142 (nI j) (nI rs) mF (nI r1) 0 (m_ys s' 311 (8 * t + j) 1000000) (fun v10 => (m_jn (fun w12 => (if m_in (nI (8 * t + j)) 2048 = true then (m_let (m_ys (m_ys s' 311 (8 * t + j) 1000000) 311 (8 * t + j) w12) fun y13 => ((f_X11_costOf (nI j) (nI d) y13).bind fun q14 => (if m_in (nI t) 256 = true then (if (y13.1 312 (nI t).toNatClampNeg) ≤ (v10 + q14) then (f_X11_laysWays_L63 (nI s) (nI d) may (nI t) n (nI (j + 1)) y13 kk) else ((f_X11_costOf (nI j) (nI d) y13).bind fun q15 => (if m_in (nI t) 256 = true then (m_let (m_ys y13 312 (nI t).toNatClampNeg (v10 + q15)) fun y16 => (f_X11_laysWays_L63 (nI s) (nI d) may (nI t) n (nI (j + 1)) y16 kk)) else none))) else none))) else none)) (fun j11 => if (1000000 : Int32) ≤ v10 then (j11 (1000000 : Int32)) else (j11 v10))))) := by
          intro r1 hr1
          refine ways_1 (s := s) hW hL hj hrs _ hy5 hbl (fun c hc => by have := (hWW.1 _ _ _ hc.2).2.2.1; omega) hr1 _ ?_
          intro m hm hmr
          have hpw : mr (fun c => pw (sC σ L) s (bS (nI t)) j c) m := (mr_cong (fun c => by
            rw [pw_rec, hbS]
            exact ⟨fun h => ⟨cb, h⟩, fun h => h.2⟩)).mp hmr
          have e12 : ∀ F : Int32 → Option mY, (if (1000000 : Int32) ≤ nI m then F (1000000 : Int32) else F (nI m)) = F (nI m) := fun F => by
            by_cases c : (1000000 : Int32) ≤ nI m
            · rw [if_pos c]
              have : 1000000 ≤ m := (nI_leI (a := 1000000) (by omega) (by omega)).mp c
              rw [show m = 1000000 by omega]; rfl
            · rw [if_neg c]
          rw [m_jn]
          refine Eq.mpr (congrArg Q (e12 (fun w12 => (if m_in (nI (8 * t + j)) 2048 = true then (m_let (m_ys (m_ys s' 311 (8 * t + j) 1000000) 311 (8 * t + j) w12) fun y13 => ((f_X11_costOf (nI j) (nI d) y13).bind fun q14 => (if m_in (nI t) 256 = true then (if (y13.1 312 (nI t).toNatClampNeg) ≤ (nI m + q14) then (f_X11_laysWays_L63 (nI s) (nI d) may (nI t) n (nI (j + 1)) y13 kk) else ((f_X11_costOf (nI j) (nI d) y13).bind fun q15 => (if m_in (nI t) 256 = true then (m_let (m_ys y13 312 (nI t).toNatClampNeg (nI m + q15)) fun y16 => (f_X11_laysWays_L63 (nI s) (nI d) may (nI t) n (nI (j + 1)) y16 kk)) else none))) else none))) else none)))) ?_
          rw [if_pos (in_ok (by omega) (by decide)), m_let]
          have F13 : yF (fun q c => (q = 311 ∧ 8 * t ≤ c ∧ c < 8 * t + 8) ∨ (q = 312 ∧ c = t)) y (m_ys (m_ys s' 311 (8 * t + j) 1000000) 311 (8 * t + j) (nI m)) := yF_set F5 (Or.inl ⟨rfl, by omega, by omega⟩)
          have hy13 : nY0 (m_ys (m_ys s' 311 (8 * t + j) 1000000) 311 (8 * t + j) (nI m)) σ L := nY0_F (yF_mo F13 (fun q c z => by rcases z with z | z; exact Or.inl z.1; exact Or.inr z.1)) hy
          obtain ⟨k, k1, k2, k3⟩ := costOf_ok hW hL hj hd _ hy13
          have e312 : (m_ys (m_ys s' 311 (8 * t + j) 1000000) 311 (8 * t + j) (nI m)).1 312 t = nI r := by rw [ys_ne (by decide), ys_ne (by decide)]; exact i3
          rw [k1, Option.bind_some, if_pos (in_ok ht (by decide)), cl (by omega), e312, nI_add]
          have hor := mr_or (fun c hc => PVj_lt hW hc) (fun c ⟨c', w, h1, h2, h3⟩ => by
            have := pw_lt hWW h1
            have := (hWW.1 _ _ _ h2).2.2.1
            omega) i4 (mr_add hpw k2)
          have bl' : (∀ q, bt (nI t) q = true → bt may q = true) → ∀ (y' : mY), y'.1 311 = (m_ys (m_ys s' 311 (8 * t + j) 1000000) 311 (8 * t + j) (nI m)).1 311 → ∀ p, p < j + 1 → bt (nI t) p = true → ∃ r, y'.1 311 (8 * t + p) = nI r ∧ mr (fun c => pw (sC σ L) s (bS (nI t)) p c) r ∧ r ≤ 1000000 := by
            intro hmay y' e311 p hp hb
            rw [e311, ys_at]
            by_cases e : p = j
            · rw [if_pos (by omega), e]
              exact ⟨m, rfl, hpw, hm⟩
            · rw [if_neg (by omega), ys_ec (by omega)]
              exact i2 hmay p (by omega) hb
          have conv : ∀ r', mr (fun c => PVj σ L may s d t j c ∨ ∃ c' w, pw (sC σ L) s (bS (nI t)) j c' ∧ sC σ L j d w ∧ c = c' + w) r' → mr (fun c => PVj σ L may s d t (j + 1) c) r' := fun r' h => (mr_cong (fun c => by
            constructor
            · rintro (⟨h1, h2 | ⟨p, c', w, h2, h3⟩⟩ | ⟨c', w, h1⟩)
              · exact ⟨h1, Or.inl h2⟩
              · exact ⟨h1, Or.inr ⟨p, c', w, by omega, h3⟩⟩
              · exact ⟨cm, Or.inr ⟨j, c', w, by omega, h1⟩⟩
            · rintro ⟨h1, h2 | ⟨p, c', w, h2, h3⟩⟩
              · exact Or.inl ⟨h1, Or.inl h2⟩
              · by_cases e : p = j
                · subst e; exact Or.inr ⟨c', w, h3⟩
                · exact Or.inl ⟨h1, Or.inr ⟨p, c', w, by omega, h3⟩⟩)).mp h
          by_cases c2 : r ≤ m + k
          · rw [if_pos ((nI_leI (by omega) (by omega)).mpr c2)]
            exact ih _ ⟨F13, fun hmay => bl' hmay _ rfl, r, e312, conv r (hor.1 c2)⟩
          · rw [if_neg (fun z => c2 ((nI_leI (by omega) (by omega)).mp z)), Option.bind_some, if_pos (in_ok ht (by decide)), m_let, nI_add]
            exact ih _ ⟨yF_set F13 (Or.inr ⟨rfl, rfl⟩), fun hmay => bl' hmay _ (ys_ne (by decide)), m + k, ys_eq _ _ _ _, conv (m + k) (hor.2 (by omega))⟩
        by_cases c0 : nI rs = 0
        · obtain ⟨k, k1, k2, _⟩ := costOf_ok hW hL hs hj _ hy5
          rw [if_pos c0, k1, Option.bind_some]
          refine cont k ((mr_cong (fun c => ⟨fun h => ⟨fun q => ⟨fun hq => ?_, fun hq => hq ▸ cb⟩, h⟩, fun h => h.2⟩)).mp k2)
          refine Classical.byContradiction fun hne => ?_
          have := (hrb q).mpr ⟨hq, hne⟩
          rw [c0, b_0] at this
          cases this
        · rw [if_neg c0]
          refine cont 1000000 (Or.inr ⟨fun c hc => c0 (b_eq0 fun q hq => ?_), rfl⟩)
          have k := (hrb q).mp hq
          exact k.2 ((hc.1 q).mp k.1)
      · rw [if_pos (h11f (by omega) cb)]
        exact skip (fun z => cb z.2)
    · rw [if_neg cm]
      rw [b_sub] at cm
      exact skip (fun z => cm z.1)
/-- all ways stand -/
def wy_Y (y : mY) (σ : Nat → Int32) (L may : Int32) (s d : Nat) : Prop := ∀ t, t < 256 → ∃ r, y.1 312 t = nI r ∧ mr (fun c => PV σ L may s d t c) r ∧ r ≤ 1000000
theorem ways_3 (hW : sW σ np) (hL : ∀ l, bt L l = true → l < sm σ) (hs : s < 8) (hd : d < 8) (y : mY) (hy : nY0 y σ L) : ∃ y', f_X11_laysWays_L28 (nI s) (nI d) may mF 0 y = some y' ∧ yF wy_W y y' ∧ wy_Y y' σ L may s d := by
  refine lp_ok 256 (fun n b s' => f_X11_laysWays_L28 (nI s) (nI d) may n b s') (fun t s' => yF wy_W y s' ∧ (∀ t', t' < t → (∀ q, bt (nI t') q = true → bt may q = true) → bl_ok s' (sC σ L) s t') ∧ ∀ t', t' < t → ∃ r, s'.1 312 t' = nI r ∧ mr (fun c => PV σ L may s d t' c) r ∧ r ≤ 1000000) ?_ ?_ mF 0 y (by decide) (by decide) ⟨yF_rf _ _, fun t' h => by omega, fun t' h => by omega⟩
  · intro n s' hI
    show ∃ y', f_X11_laysWays_L28 (nI s) (nI d) may (n + 1) (nI 256) s' = some y' ∧ _
    rw [f_X11_laysWays_L28, if_pos (by decide)]
    exact ⟨s', rfl, hI.1, hI.2.2⟩
  · rintro n t s' ht ⟨i1, i2, i3⟩ ih
    show ∃ y', f_X11_laysWays_L28 (nI s) (nI d) may (n + 1) (nI t) s' = some y' ∧ _
    have hys := nY0_F i1 hy
    rw [f_X11_laysWays_L28, if_neg (k256f ht), m_jn, nI_1]
    have cont : ∀ r0, mr (fun c => PVj σ L may s d t 0 c) r0 → ∃ y', (if m_in (nI t) 256 = true then (m_let (m_ys s' 312 (nI t).toNatClampNeg (nI r0)) fun y4 => (f_X11_laysWays_L63 (nI s) (nI d) may (nI t) mF (0 : Int32) y4 (fun y18 => (f_X11_laysWays_L28 (nI s) (nI d) may n (nI (t + 1)) y18)))) else none) = some y' ∧ yF wy_W y y' ∧ wy_Y y' σ L may s d := by
      intro r0 h0
      rw [if_pos (in_ok ht (by decide)), cl (by omega), m_let]
      have F4 : yF wy_W s' (m_ys s' 312 t (nI r0)) := yF_set (yF_rf _ _) (Or.inr rfl)
      refine ways_2 (may := may) (Q := fun o => ∃ y', o = some y' ∧ yF wy_W y y' ∧ wy_Y y' σ L may s d) hW hL hs hd ht _ (nY0_F F4 hys) (fun t' h1 h2 p hp hb => by
        rw [ys_ne (by decide)]
        exact i2 t' h1 h2 p hp hb) (ys_eq _ _ _ _) h0 _ ?_
      intro y18 F18 b18 r18
      refine ih y18 ⟨yF_tr i1 (yF_tr F4 (yF_mo F18 (fun q c z => by rcases z with z | z; exact Or.inl z.1; exact Or.inr z.1))), fun t' h1 h2 => ?_, fun t' h1 => ?_⟩
      · by_cases e : t' = t
        · rw [e]; rw [e] at h2; exact b18 h2
        · intro p hp hb
          obtain ⟨r, a1, a2⟩ := i2 t' (by omega) h2 p hp hb
          refine ⟨r, ?_, a2⟩
          rw [F18.1 311 (8 * t' + p) (fun z => by omega), ys_ne (by decide)]
          exact a1
      · by_cases e : t' = t
        · rw [e]; exact r18
        · obtain ⟨r, a1, a2⟩ := i3 t' (by omega)
          refine ⟨r, ?_, a2⟩
          rw [F18.1 312 t' (fun z => by omega), ys_ec e]
          exact a1
    by_cases c0 : t = 0
    · subst c0
      obtain ⟨k, k1, k2, _⟩ := costOf_ok hW hL hs hd s' hys
      rw [if_pos nI_0, k1, Option.bind_some]
      have nob : ∀ q, ¬ bt (nI 0) q = true := fun q => by rw [nI_0, b_0]; decide
      refine cont k ((mr_cong (fun c => ?_)).mp k2)
      constructor
      · intro h
        exact ⟨fun q hq => absurd hq (nob q), Or.inl ⟨nob, h⟩⟩
      · rintro ⟨_, ⟨_, h⟩ | ⟨p, c', w, h, _⟩⟩
        · exact h
        · omega
    · rw [if_neg (nI_ne0 (by omega) (by omega))]
      refine cont 1000000 (Or.inr ⟨fun c hc => ?_, rfl⟩)
      rcases hc.2 with ⟨h, _⟩ | ⟨p, c', w, h, _⟩
      · have : nI t = 0 := b_eq0 h
        exact nI_ne0 (by omega) (by omega) this
      · omega
end V5
