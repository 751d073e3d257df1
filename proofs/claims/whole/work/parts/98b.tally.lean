/-! ===== loads ===== -/
section SJ
variable {np rt s d : Nat} {x x' : mX} {y y' : mY} {p1 p2 p3 : Int32} {σ : Nat → Int32} {P L M dn : Int32}
/-- one more over each of the first j -/
def ldj (T : List Nat) (f : Nat → Int32) : Nat → Nat → Int32
  | 0 => f
  | j + 1 => match T[j]? with
    | some l => fun i => if i = l then ldj T f j i + 1 else ldj T f j i
    | none => ldj T f j
theorem ldj_s {T : List Nat} {f : Nat → Int32} {j l : Nat} (h : T[j]? = some l) (i : Nat) : ldj T f (j + 1) i = if i = l then ldj T f j i + 1 else ldj T f j i := by
  show (match T[j]? with
    | some l => fun i => if i = l then ldj T f j i + 1 else ldj T f j i
    | none => ldj T f j) i = _
  rw [h]
theorem ldj_cg {T : List Nat} {f g : Nat → Int32} {i : Nat} (h : f i = g i) : ∀ j, ldj T f j i = ldj T g j i
  | 0 => h
  | j + 1 => by
    have ih := ldj_cg (T := T) h j
    cases e : T[j]? with
    | some l => rw [ldj_s e, ldj_s e, ih]
    | none =>
      show (match T[j]? with
        | some l => fun i => if i = l then ldj T f j i + 1 else ldj T f j i
        | none => ldj T f j) i = (match T[j]? with
        | some l => fun i => if i = l then ldj T g j i + 1 else ldj T g j i
        | none => ldj T g j) i
      rw [e]
      exact ih
theorem tally_ok {r1 v : Nat} {T : List Nat} {tn : Int32} (h1 : r1 ≠ 251) (h2 : r1 ≠ 252) (x : mX) (ht : tr_X x v T tn) (hl : T.length ≤ 14) (h16 : ∀ (i l : Nat), T[i]? = some l → l < 16) : ∃ x1, f_X8_tally r1 x = some x1 ∧ xF (fun q c => q = r1 ∧ c < 16) x x1 ∧ ∀ i, x1.1 r1 i = ldj T (x.1 r1) T.length i := by
  unfold f_X8_tally
  refine lp_ok T.length (fun n b (s : mX) => f_X8_tally_L2 r1 n b s) (fun j s => xF (fun q c => q = r1 ∧ c < 16) x s ∧ ∀ i, s.1 r1 i = ldj T (x.1 r1) j i) ?_ ?_ mF 0 x (Nat.lt_of_le_of_lt hl (by decide)) (Nat.zero_le _) ⟨xF_rf _ _, fun i => rfl⟩
  · rintro n s ⟨g1, g2⟩
    show ∃ x1, f_X8_tally_L2 r1 (n + 1) (nI T.length) s = some x1 ∧ _
    have e : s.1 251 1 = nI T.length := by rw [g1.1 251 1 (fun z => h1 z.1.symm)]; exact ht.1
    rw [f_X8_tally_L2, if_pos (show s.1 251 1 ≤ nI T.length by rw [e]; exact nI_le (Nat.le_refl _) (by omega))]
    exact ⟨s, rfl, g1, g2⟩
  · rintro n j s hj ⟨g1, g2⟩ ih
    show ∃ x1, f_X8_tally_L2 r1 (n + 1) (nI j) s = some x1 ∧ _
    have e : s.1 251 1 = nI T.length := by rw [g1.1 251 1 (fun z => h1 z.1.symm)]; exact ht.1
    obtain ⟨l, hT⟩ : ∃ l, T[j]? = some l := ⟨_, List.getElem?_eq_getElem hj⟩
    have l16 := h16 j l hT
    have e2 : s.1 252 j = nI l := by rw [g1.1 252 j (fun z => h2 z.1.symm)]; exact ht.2.2.2 j l hT
    rw [f_X8_tally_L2, if_neg (show ¬ s.1 251 1 ≤ nI j by rw [e]; exact nI_ge hj (by omega)), if_neg (k16f (by omega)), if_pos (in_ok (by omega) (by decide)), cl (by omega), e2, if_neg (nI_pos (by omega)), if_pos (in_ok (by omega) (by decide)), if_neg (k16f l16), if_pos (in_ok (by omega) (by decide)), if_pos (in_ok l16 (by decide)), if_pos (in_ok l16 (by decide)), cl (by omega), m_let, nI_1]
    refine ih _ ⟨xF_set g1 ⟨rfl, l16⟩, fun i => ?_⟩
    rw [ldj_s hT]
    by_cases c : i = l
    · subst c
      rw [xs_eq, if_pos rfl, g2]
    · rw [xs_ec c, if_neg c, g2]
theorem loads_L63 {T : List Nat} {tn : Int32} (y : mY) (ht : tr_Y y T tn) (hl : T.length ≤ 14) (h16 : ∀ (i l : Nat), T[i]? = some l → l < 16) (kk : mY → Option mY) : ∃ y1, f_X11_laysLoads_L63 mF 0 y kk = kk y1 ∧ yF (fun q c => q = 310) y y1 ∧ ∀ i, y1.1 310 i = ldj T (y.1 310) T.length i := by
  have z := lp_up T.length (fun n b (s : mY) => f_X11_laysLoads_L63 n b s kk) (fun j s => yF (fun q c => q = 310) y s ∧ ∀ i, s.1 310 i = ldj T (y.1 310) j i) (fun o => ∃ y1, o = kk y1 ∧ yF (fun q c => q = 310) y y1 ∧ ∀ i, y1.1 310 i = ldj T (y.1 310) T.length i) (by
    rintro n s ⟨g1, g2⟩
    show ∃ y1, f_X11_laysLoads_L63 (n + 1) (nI T.length) s kk = kk y1 ∧ _
    have e : s.1 279 54 = nI T.length := by rw [g1.1 279 54 (by omega)]; exact ht.1
    rw [f_X11_laysLoads_L63, if_pos (show s.1 279 54 ≤ nI T.length by rw [e]; exact nI_le (Nat.le_refl _) (by omega))]
    exact ⟨s, rfl, g1, g2⟩) (by
    rintro n j s hj ⟨g1, g2⟩ ih
    show ∃ y1, f_X11_laysLoads_L63 (n + 1) (nI j) s kk = kk y1 ∧ _
    have e : s.1 279 54 = nI T.length := by rw [g1.1 279 54 (by omega)]; exact ht.1
    obtain ⟨l, hT⟩ : ∃ l, T[j]? = some l := ⟨_, List.getElem?_eq_getElem hj⟩
    have l16 := h16 j l hT
    have e2 : s.1 309 j = nI l := by rw [g1.1 309 j (by omega)]; exact ht.2.2 j l hT
    rw [f_X11_laysLoads_L63, if_neg (show ¬ s.1 279 54 ≤ nI j by rw [e]; exact nI_ge hj (by omega)), if_pos (in_ok (by omega) (by decide)), cl (by omega), e2, if_pos (in_ok l16 (by decide)), if_pos (in_ok l16 (by decide)), cl (by omega), m_let, nI_1]
    refine ih _ ⟨yF_set g1 rfl, fun i => ?_⟩
    rw [ldj_s hT]
    by_cases c : i = l
    · subst c
      rw [ys_eq, if_pos rfl, g2]
    · rw [ys_ec c, if_neg c, g2]) mF 0 y (Nat.lt_of_lt_of_le (show T.length < mF from Nat.lt_of_le_of_lt hl (by decide)) (Nat.le_add_left _ _)) (Nat.zero_le _) ⟨yF_rf _ _, fun i => rfl⟩
  exact z
/-! what the class's caches leave alone -/
def lnX (q c : Nat) : Prop := (228 ≤ q ∧ q ≤ 239) ∨ (q = 0 ∧ c = 8)
theorem learntNet_fr (h : IV np rt x y) {a : Nat} (e : f_X10_learntNet x = some (a, x')) : eqX lnX x x' := by
  unfold f_X10_learntNet at e
  by_cases c : x.1 0 8 = 0
  · rw [if_pos c] at e
    have := congrArg Prod.snd (Option.some.inj e)
    dsimp only at this
    rw [← this]
    exact fun _ _ _ => rfl
  · rw [if_neg c] at e
    have hW := h.1.1
    have hR := h.1.2
    rw [hR.2.2.2.2.2.1, hR.2.2.2.2.2.2.1] at e
    obtain ⟨x1, e1, w1, n1⟩ := build_ok (a := 228) (Or.inr (Or.inl rfl)) (P := y.1 289 2) (L := y.1 289 3) x hR hW (sW_b8 hW).2 (fun l hl => (hW.2.2.2.2.2.1 l hl).1)
    rw [e1, Option.bind_some] at e
    unfold f_X7_forget at e
    rw [m_let, m_let, m_let] at e
    have := congrArg Prod.snd (Option.some.inj e)
    dsimp only at this
    rw [← this]
    intro q c hq
    unfold lnX at hq
    by_cases e0 : q = 0
    · subst e0
      rw [xs_ec (by omega), xs_ne (by decide), w1.1 0 (by decide)]
    · rw [xs_ne e0, xs_ne (by omega), w1.1 q (by omega)]
theorem prep_fr {r : Nat} (hr : r < 8) (h : IV np rt x y) (h8 : x.1 0 8 = 0) (e : f_X7_prepare (nI r) x = some x') : eqX lnX x x' := by
  obtain ⟨c1, c2⟩ := h.2.2.2.2.2.2.1 h8
  obtain ⟨x1, e1, w1, t1, r1⟩ := prepare_ok hr x (sN_learnt h.1.1) c1 c2
  rw [e1] at e
  rw [← Option.some.inj e]
  exact fun q c hq => w1.1 q c (fun z => hq (Or.inl (by have := pr_W_row z; omega)))
theorem canGo_fr (h : IV np rt x y) {r : Int32} (e : f_X10_canGo p1 p2 x = some (r, x')) : eqX lnX x x' := by
  unfold f_X10_canGo at e
  rcases canSend_x h p1 p2 with ⟨s, d, k, ec⟩ | ⟨k, ec⟩
  · rw [ec, if_neg (by decide)] at e
    obtain ⟨x1, e1, i1, z1⟩ := learntNet_ok h
    have f1 := learntNet_fr h e1
    rw [e1, Option.bind_some] at e
    dsimp only at e
    have hd : d < 8 := Nat.lt_of_lt_of_le k.2.1 h.1.1.1
    have ep : p2 = nI d := k.2.2.2.1
    rw [if_pos rfl, ep] at e
    obtain ⟨x2, e2, i2, z2, r2⟩ := prep_ok hd i1 z1
    have f2 := prep_fr hd i1 z1 e2
    rw [e2, Option.bind_some] at e
    have := congrArg Prod.snd (Option.some.inj e)
    dsimp only at this
    rw [← this]
    exact fun q c hq => (f2 q c hq).trans (f1 q c hq)
  · rw [ec, if_pos rfl] at e
    have := congrArg Prod.snd (Option.some.inj e)
    dsimp only at this
    rw [← this]
    exact fun _ _ _ => rfl
end SJ
