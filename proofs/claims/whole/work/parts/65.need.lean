/-! ===== need: how many links tie a net ===== -/
section Q1
variable {A : Nat → Nat → Prop} {V : Nat → Prop}
/-- i tells a piece without a cut -/
def al (A : Nat → Nat → Prop) (V : Nat → Prop) (i : Nat) : Prop := g_L A V i ∧ ∀ w, g_C A V i w → ¬ g_K A V w
/-- i tells a part beside the cut p in which there is no cut -/
def en (A : Nat → Nat → Prop) (V : Nat → Prop) (p i : Nat) : Prop := g_K A V p ∧ g_L A (g_D V p) i ∧ (∀ w, g_C A (g_D V p) i w → ¬ g_K A V w) ∧ ∃ w, g_C A (g_D V p) i w ∧ A p w
/-- how many parts without p -/
noncomputable def dw (A : Nat → Nat → Prop) (V : Nat → Prop) (p : Nat) : Nat := g_n (g_L A (g_D V p)) 8
noncomputable def mxw (A : Nat → Nat → Prop) (V : Nat → Prop) : Nat → Nat
  | 0 => 0
  | j + 1 => @ite Nat (g_K A V j) (Classical.propDecidable _) (max (mxw A V j) (dw A V j)) (mxw A V j)
noncomputable def sme (A : Nat → Nat → Prop) (V : Nat → Prop) : Nat → Nat
  | 0 => 0
  | j + 1 => sme A V j + g_n (en A V j) 8
noncomputable def nd (A : Nat → Nat → Prop) (V : Nat → Prop) : Nat :=
  if g_n V 8 ≤ 2 then g_n (g_L A V) 8 - 1 else if g_n (al A V) 8 = 1 ∧ sme A V 8 = 0 then 0 else max (mxw A V 8 - 1) ((sme A V 8 + 1) / 2 + g_n (al A V) 8)
theorem mxw_8 : ∀ j, mxw A V j ≤ 8
  | 0 => Nat.zero_le _
  | j + 1 => by
    rw [mxw]
    have := mxw_8 j
    have := g_n_bound (P := g_L A (g_D V j)) 8
    by_cases c : g_K A V j
    · rw [if_pos c]; unfold dw; omega
    · rw [if_neg c]; exact mxw_8 j
theorem sme_8 : ∀ j, sme A V j ≤ 8 * j
  | 0 => Nat.zero_le _
  | j + 1 => by
    rw [sme]
    have := sme_8 j
    have := g_n_bound (P := en A V j) 8
    omega
end Q1
section Q2
variable {A : Nat → Nat → Prop} {P : Int32}
theorem partsWithout_ok (x : mX) {g : Nat} (hg : g < 8) (hD : n_div x.1 258 P A) : f_X1_partsWithout (nI g) x = some (nI (dw A (bS P) g)) := by
  unfold f_X1_partsWithout
  refine lp_up 8 (fun n b (s : Int32) => f_X1_partsWithout_L4 (nI g) n s b x) (fun j s => s = nI (g_n (g_L A (g_D (bS P) g)) j)) (fun o => o = some (nI (dw A (bS P) g))) ?_ ?_ mF 0 0 (by decide) (by decide) rfl
  · intro n s hI
    show f_X1_partsWithout_L4 (nI g) (n + 1) s (nI 8) x = _
    rw [f_X1_partsWithout_L4, if_pos (by decide), hI]; rfl
  · intro n j s hj hI ih
    show f_X1_partsWithout_L4 (nI g) (n + 1) s (nI j) x = _
    rw [f_X1_partsWithout_L4, if_neg (k8f hj), without_ok (Or.inr (Or.inr rfl)) hg hj, Option.bind_some, nI_1]
    rcases isLeast_ok (A := A) (V := g_D (bS P) g) (r0 := 258) hj (hD.2 g hg j hj) with ⟨h1, h2⟩ | ⟨h1, h2⟩
    · rw [h2, Option.bind_some, if_neg (by decide)]
      exact ih _ (by rw [hI, nI_1, g_n_step j h1])
    · rw [h2, Option.bind_some, if_pos rfl]
      exact ih _ (by rw [hI, g_n_stay j h1])
theorem endsAt_ok (x : mX) {g : Nat} (hg : g < 8) {cut : Int32} (hcut : ∀ i, bt cut i = true ↔ g_K A (bS P) i) (hgc : g_K A (bS P) g) (hn : ∀ p, p < 8 → ∀ q, bt (x.1 259 p) q = true ↔ A p q) (hD : n_div x.1 258 P A) : f_X1_endsAt (nI g) cut x = some (nI (g_n (en A (bS P) g) 8)) := by
  unfold f_X1_endsAt
  refine lp_up 8 (fun n b (s : Int32) => f_X1_endsAt_L5 (nI g) cut n s b x) (fun j s => s = nI (g_n (en A (bS P) g) j)) (fun o => o = some (nI (g_n (en A (bS P) g) 8))) ?_ ?_ mF 0 0 (by decide) (by decide) rfl
  · intro n s hI
    show f_X1_endsAt_L5 (nI g) cut (n + 1) s (nI 8) x = _
    rw [f_X1_endsAt_L5, if_pos (by decide), hI]
  · intro n j s hj hI ih
    show f_X1_endsAt_L5 (nI g) cut (n + 1) s (nI j) x = _
    have hS := hD.2 g hg j hj
    rw [f_X1_endsAt_L5, if_neg (k8f hj), without_ok (Or.inr (Or.inr rfl)) hg hj, Option.bind_some, nI_1]
    have skip : ¬ en A (bS P) g j → f_X1_endsAt_L5 (nI g) cut n s (nI (j + 1)) x = some (nI (g_n (en A (bS P) g) 8)) := fun h => ih _ (by rw [hI, g_n_stay j h])
    rcases isLeast_ok (A := A) (V := g_D (bS P) g) (r0 := 258) hj hS with ⟨h1, h2⟩ | ⟨h1, h2⟩
    · rw [h2, Option.bind_some, if_neg (by decide)]
      by_cases c1 : ((x.1 (258 + 4) (g * 8 + j)) &&& cut) = 0
      · rw [if_pos c1, if_pos (in_ok hg (by decide)), cl (by omega)]
        rw [b_and0] at c1
        by_cases c2 : ((x.1 (258 + 4) (g * 8 + j)) &&& (x.1 259 g)) = 0
        · rw [if_pos c2]
          rw [b_and0] at c2
          refine skip (fun ⟨_, _, _, w, w1, w2⟩ => c2 w ((hS w).mpr w1) ((hn g hg w).mpr w2))
        · rw [if_neg c2]
          refine ih _ ?_
          rw [hI, nI_1, g_n_step j]
          refine ⟨hgc, h1, fun w hw hk => c1 w ((hS w).mpr hw) ((hcut w).mpr hk), ?_⟩
          refine Classical.byContradiction fun hc => c2 (b_and0.mpr fun w w1 w2 => hc ⟨w, (hS w).mp w1, (hn g hg w).mp w2⟩)
      · rw [if_neg c1]
        refine skip (fun ⟨_, _, h, _⟩ => c1 (b_and0.mpr fun w w1 w2 => h w ((hS w).mp w1) ((hcut w).mp w2)))
    · rw [h2, Option.bind_some, if_pos rfl]
      exact skip (fun h => h1 h.2.1)
theorem need_in (x : mX) {cut : Int32} (k2 : ∀ i, bt cut i = true ↔ g_K A (bS P) i) (hn : ∀ p, p < 8 → ∀ q, bt (x.1 259 p) q = true ↔ A p q) (hD : n_div x.1 258 P A) (kk : Int32 → Int32 → Int32 → Option Int32) : f_X1_need_L47 cut mF 0 0 0 0 x kk = kk (nI (mxw A (bS P) 8)) (nI (sme A (bS P) 8)) (nI (g_n (al A (bS P)) 8)) := by
  refine lp_up 8 (fun n b (t : Int32 × Int32 × Int32) => f_X1_need_L47 cut n t.1 t.2.1 t.2.2 b x kk) (fun j t => t.1 = nI (mxw A (bS P) j) ∧ t.2.1 = nI (sme A (bS P) j) ∧ t.2.2 = nI (g_n (al A (bS P)) j)) (fun o => o = kk (nI (mxw A (bS P) 8)) (nI (sme A (bS P) 8)) (nI (g_n (al A (bS P)) 8))) ?_ ?_ mF 0 (0, 0, 0) (by decide) (by decide) ⟨rfl, rfl, rfl⟩
  · rintro n ⟨t1, t2, t3⟩ ⟨i1, i2, i3⟩
    show f_X1_need_L47 cut (n + 1) t1 t2 t3 (nI 8) x kk = _
    rw [f_X1_need_L47, if_pos (by decide), show t1 = nI (mxw A (bS P) 8) from i1, show t2 = nI (sme A (bS P) 8) from i2, show t3 = nI (g_n (al A (bS P)) 8) from i3]
  · rintro n j ⟨t1, t2, t3⟩ hj ⟨i1, i2, i3⟩ ih
    show f_X1_need_L47 cut (n + 1) t1 t2 t3 (nI j) x kk = _
    have i1' : t1 = nI (mxw A (bS P) j) := i1
    have i2' : t2 = nI (sme A (bS P) j) := i2
    have i3' : t3 = nI (g_n (al A (bS P)) j) := i3
    have hS := hD.1 j hj
    rw [f_X1_need_L47, if_neg (k8f hj), if_pos (in_ok hj (by decide)), cl (by omega), nI_1]
    have cont : ∀ v5 : Int32, v5 = nI (g_n (al A (bS P)) (j + 1)) → (if (f_X10_has cut (nI j)) = 0 then (f_X1_need_L47 cut n t1 t2 v5 (nI (j + 1)) x kk) else ((f_X1_partsWithout (nI j) x).bind fun q6 => ((f_X1_endsAt (nI j) cut x).bind fun q7 => (f_X1_need_L47 cut n (if t1 < q6 then q6 else t1) (t2 + q7) v5 (nI (j + 1)) x kk)))) = kk (nI (mxw A (bS P) 8)) (nI (sme A (bS P) 8)) (nI (g_n (al A (bS P)) 8)) := by
      intro v5 hv5
      by_cases cc : bt cut j = true
      · have hK := (k2 j).mp cc
        have hd8 := g_n_bound (P := g_L A (g_D (bS P) j)) 8
        have hmj := mxw_8 (A := A) (V := bS P) j
        rw [if_neg (h10t (by omega) cc), partsWithout_ok x hj hD, Option.bind_some, endsAt_ok x hj k2 hK hn hD, Option.bind_some]
        refine ih (_, _, v5) ⟨?_, ?_, hv5⟩
        · show (if t1 < nI (dw A (bS P) j) then nI (dw A (bS P) j) else t1) = _
          rw [mxw, if_pos hK, i1']
          have hdd : dw A (bS P) j ≤ 8 := hd8
          by_cases c1 : mxw A (bS P) j < dw A (bS P) j
          · rw [if_pos ((nI_ltI (by omega) (by omega)).mpr c1), Nat.max_eq_right (by omega)]
          · rw [if_neg (fun z => c1 ((nI_ltI (by omega) (by omega)).mp z)), Nat.max_eq_left (by omega)]
        · show t2 + nI (g_n (en A (bS P) j) 8) = _
          rw [i2', nI_add, sme]
      · have hK : ¬ g_K A (bS P) j := fun z => cc ((k2 j).mpr z)
        rw [if_pos (h10f (by omega) cc)]
        refine ih (t1, t2, v5) ⟨?_, ?_, hv5⟩
        · show t1 = _
          rw [mxw, if_neg hK]; exact i1'
        · show t2 = _
          rw [sme, g_n_zero 8 (fun c _ h => hK h.1)]; exact i2'
    rcases isLeast_ok (A := A) (V := bS P) (r0 := 258) hj hS with ⟨h1, h2⟩ | ⟨h1, h2⟩
    · rw [h2, Option.bind_some, m_jn, if_neg (by decide), if_pos (in_ok hj (by decide))]
      by_cases c1 : ((x.1 260 j) &&& cut) = 0
      · rw [if_pos c1]
        rw [b_and0] at c1
        refine cont _ ?_
        rw [i3', nI_1, g_n_step j]
        exact ⟨h1, fun w hw hk => c1 w ((hS w).mpr hw) ((k2 w).mpr hk)⟩
      · rw [if_neg c1]
        refine cont _ ?_
        rw [i3', g_n_stay j]
        exact fun h => c1 (b_and0.mpr fun w w1 w2 => h.2 w ((hS w).mp w1) ((k2 w).mp w2))
    · rw [h2, Option.bind_some, m_jn, if_pos rfl]
      refine cont _ ?_
      rw [i3', g_n_stay j]
      exact fun h => h1 h.1
theorem need_ok (x : mX) (h8 : b8 P) (hP : x.1 258 0 = P) (hN : g_N A (bS P)) (hn : ∀ p, p < 8 → ∀ q, bt (x.1 259 p) q = true ↔ A p q) (hD : n_div x.1 258 P A) : f_X1_need x = some (nI (nd A (bS P))) := by
  have hb := g_n_bound (P := bS P) 8
  have hm8 := mxw_8 (A := A) (V := bS P) 8
  have hs8 := sme_8 (A := A) (V := bS P) 8
  have ha8 := g_n_bound (P := al A (bS P)) 8
  unfold f_X1_need nd
  rw [hP, bitCount_ok h8, Option.bind_some]
  by_cases c : g_n (bS P) 8 ≤ 2
  · rw [if_pos c, if_neg (show ¬ (2 : Int32) < nI (g_n (bS P) 8) from nI_nlt (b := g_n (bS P) 8) (a := 2) c (by omega))]
    obtain ⟨r, r1, r2⟩ := pieceAt_ok (A := A) (V := bS P) (a := 258) x hD.1 (-1)
    have hp8 := g_n_bound (P := g_L A (bS P)) 8
    have er : r = nI (g_n (g_L A (bS P)) 8) := by
      rcases r2 with ⟨m, _, _, m3, _⟩ | ⟨_, h⟩
      · have := g_n_bound (P := g_L A (bS P)) m
        exact absurd m3.symm (nI_m1 (by omega))
      · rw [if_pos rfl] at h; exact h
    rw [r1, Option.bind_some, er]
    by_cases c0 : g_n (g_L A (bS P)) 8 = 0
    · rw [c0, if_pos (by decide)]; rfl
    · rw [nI_p (by omega), if_neg (nI_pos (by omega))]
  · rw [if_neg c, if_pos (show (2 : Int32) < nI (g_n (bS P) 8) from (nI_ltI (a := 2) (by omega) (by omega)).mpr (by omega))]
    obtain ⟨cut, k1, k2⟩ := cutPosts_ok (A := A) (P := P) (a := 258) (Or.inr (Or.inr rfl)) x hN hn hD
    rw [k1, Option.bind_some]
    rw [need_in x k2 hn hD, m_jn]
    have ediv : nI (sme A (bS P) 8 + 1) / (2 : Int32) = nI ((sme A (bS P) 8 + 1) / 2) := pk_div (d := 2) (by omega) (by decide) (by decide)
    have fin : some (if (nI (mxw A (bS P) 8) - (1 : Int32)) < (((nI (sme A (bS P) 8) + (1 : Int32)) / (2 : Int32)) + nI (g_n (al A (bS P)) 8)) then (((nI (sme A (bS P) 8) + (1 : Int32)) / (2 : Int32)) + nI (g_n (al A (bS P)) 8)) else (nI (mxw A (bS P) 8) - (1 : Int32))) = some (nI (max (mxw A (bS P) 8 - 1) ((sme A (bS P) 8 + 1) / 2 + g_n (al A (bS P)) 8))) := by
      rw [nI_1, ediv, nI_add]
      by_cases c0 : mxw A (bS P) 8 = 0
      · rw [c0, show nI 0 - 1 = (-1 : Int32) by decide, if_pos (m1_lt (by omega)), show 0 - 1 = 0 from rfl, Nat.max_eq_right (Nat.zero_le _)]
      · rw [nI_p (by omega)]
        by_cases c1 : mxw A (bS P) 8 - 1 < (sme A (bS P) 8 + 1) / 2 + g_n (al A (bS P)) 8
        · rw [if_pos ((nI_ltI (by omega) (by omega)).mpr c1), Nat.max_eq_right (by omega)]
        · rw [if_neg (fun z => c1 ((nI_ltI (by omega) (by omega)).mp z)), Nat.max_eq_left (by omega)]
    by_cases ca : g_n (al A (bS P)) 8 = 1
    · rw [if_pos (by rw [ca]; rfl)]
      by_cases cs : sme A (bS P) 8 = 0
      · rw [if_pos (by rw [cs]; rfl), if_pos ⟨ca, cs⟩]; rfl
      · rw [if_neg (nI_ne0 (by omega) (by omega)), if_neg (show ¬ (g_n (al A (bS P)) 8 = 1 ∧ sme A (bS P) 8 = 0) from fun z => cs z.2)]
        exact fin
    · rw [if_neg (show ¬ nI (g_n (al A (bS P)) 8) = (1 : Int32) from fun z => ca ((nI_eq (b := 1) (by omega) (by omega)).mp z)), if_neg (show ¬ (g_n (al A (bS P)) 8 = 1 ∧ sme A (bS P) 8 = 0) from fun z => ca z.1)]
      exact fin
end Q2
