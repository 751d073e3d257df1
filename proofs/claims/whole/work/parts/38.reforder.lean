/-! ===== the reference's orders ===== -/
section R1
variable {A : Nat → Nat → Prop} {B : Nat → Prop} {h t m k : Nat} {f g : Nat → Nat}
theorem od_k_cong (he : ∀ i, i < m → f i = g i) (hk : od_k A m f) : od_k A m g := by
  intro i h1 h2
  obtain ⟨⟨j, j1, j2⟩, l, l1, l2, l3⟩ := hk i h1 h2
  rw [← he i (by omega)]
  exact ⟨⟨j, j1, by rw [← he j (by omega)]; exact j2⟩, l, l1, l2, by rw [← he l l2]; exact l3⟩
theorem g_n_lt2 {P : Nat → Prop} {a b : Nat} (ha : P a) (h : a < b) : g_n P a < g_n P b := by
  have := g_n_mono (P := P) (show a + 1 ≤ b from h)
  rw [g_n_step a ha] at this
  omega
theorem g_n_mid (hB : ∀ c, B c → c < 8) (hh : B h) (ht : B t) (hht : h ≠ t) : g_n B 8 = g_n (fun c => B c ∧ c ≠ h ∧ c ≠ t) 8 + 2 := by
  have e1 := g_n_split (P := B) (Q := fun c => c = h) 8
  have e2 := g_n_split (P := fun c => B c ∧ ¬ c = h) (Q := fun c => c = t) 8
  have e3 : g_n (fun c => B c ∧ c = h) 8 = 1 := g_n_one 8 h (hB h hh) ⟨hh, rfl⟩ (fun c _ hc => hc.2)
  have e4 : g_n (fun c => (B c ∧ ¬ c = h) ∧ c = t) 8 = 1 := g_n_one 8 t (hB t ht) ⟨⟨ht, Ne.symm hht⟩, rfl⟩ (fun c _ hc => hc.2)
  have e5 : g_n (fun c => (B c ∧ ¬ c = h) ∧ ¬ c = t) 8 = g_n (fun c => B c ∧ c ≠ h ∧ c ≠ t) 8 := g_n_cong 8 (fun c _ => ⟨fun z => ⟨z.1.1, z.1.2, z.2⟩, fun z => ⟨⟨z.1, z.2.1⟩, z.2.2⟩⟩)
  omega
/-- the row of the order at k -/
def rr_R (y : mY) (k m : Nat) (f : Nat → Nat) : Prop := ∀ i, i < m → y.1 299 (8 * k + i) = nI (f i)
theorem isOrder_1 {y : mY} (hk : k < 64) (hm : m ≤ 8) (hm2 : 2 ≤ m) (hf : ∀ i, i < m → f i < 8) (hR : rr_R y k m f) {Q : Option Int32 → Prop} (kk : Int32 → Option Int32) (hq : ∀ s, (∀ c, bt s c = true ↔ ∃ i, 1 ≤ i ∧ i < m ∧ f i = c) → Q (kk s)) : Q (f_X11_isOrder_L8 (nI (8 * k)) (nI m) mF 0 1 y kk) := by
  refine lp_up m (fun n b (s : Int32) => f_X11_isOrder_L8 (nI (8 * k)) (nI m) n s b y kk) (fun j s => 1 ≤ j ∧ ∀ c, bt s c = true ↔ ∃ i, 1 ≤ i ∧ i < j ∧ f i = c) Q ?_ ?_ mF 1 0 (Nat.lt_of_le_of_lt hm (by decide)) (by omega) ⟨by omega, fun c => ?_⟩
  · intro n s hI
    show Q (f_X11_isOrder_L8 (nI (8 * k)) (nI m) (n + 1) s (nI m) y kk)
    rw [f_X11_isOrder_L8, if_pos ((nI_leI (by omega) (by omega)).mpr (Nat.le_refl _))]
    exact hq s hI.2
  · intro n j s hj hI ih
    show Q (f_X11_isOrder_L8 (nI (8 * k)) (nI m) (n + 1) s (nI j) y kk)
    have h8 := hf j hj
    rw [f_X11_isOrder_L8, if_neg (fun z => absurd ((nI_leI (by omega) (by omega)).mp z) (by omega)), nI_add, if_pos (in_ok (by omega) (by decide)), cl (by omega), hR j hj, nI_1]
    refine ih _ ⟨by omega, fun c => ?_⟩
    rw [b_or, b_bit (by omega), Bool.or_eq_true, decide_eq_true_eq, hI.2 c]
    constructor
    · rintro (⟨i, i1, i2, i3⟩ | rfl)
      · exact ⟨i, i1, by omega, i3⟩
      · exact ⟨j, hI.1, by omega, rfl⟩
    · rintro ⟨i, i1, i2, i3⟩
      by_cases e : i = j
      · subst e; exact Or.inr i3.symm
      · exact Or.inl ⟨i, i1, by omega, i3⟩
  · rw [b_0]
    exact ⟨fun z => (by cases z), fun ⟨i, i1, i2, _⟩ => by omega⟩
theorem isOrder_ok {y : mY} (hk : k < 64) (hm : m ≤ 8) (hB : ∀ c, B c → c < 8) (hr : od_r B h t m f) (hR : rr_R y k m f) (hE : nA (fun p => y.1 293 (8 * 1 + p)) = A) : (od_k A m f ∧ f_X11_isOrder (nI (8 * k)) (nI m) y = some 1) ∨ (¬ od_k A m f ∧ f_X11_isOrder (nI (8 * k)) (nI m) y = some 0) := by
  have hf : ∀ i, i < m → f i < 8 := fun i hi => hB _ (hr.2.2.2.1 i hi)
  have hinj := hr.2.2.2.2.1
  have hm2 := hr.1
  have hAb : ∀ p q, p < 8 → q < 8 → (A p q ↔ bt (y.1 293 (8 + p)) q = true) := fun p q hp hq => by
    rw [← hE]
    exact ⟨fun z => z.2.2, fun z => ⟨hp, hq, z⟩⟩
  unfold f_X11_isOrder
  refine isOrder_1 (Q := fun o => (od_k A m f ∧ o = some 1) ∨ (¬ od_k A m f ∧ o = some 0)) hk hm hm2 hf hR _ ?_
  intro s0 hs0
  have h0 : ∀ c, bt (0 : Int32) c = true ↔ ∃ i, i + 1 < 1 ∧ f i = c := fun c => by
    rw [b_0]
    exact ⟨fun z => (by cases z), fun ⟨i, i1, _⟩ => by omega⟩
  refine lp_up (m - 1) (fun n b (s : Int32 × Int32) => f_X11_isOrder_L39 (nI (8 * k)) (nI m) n s.1 s.2 b y) (fun j s => 1 ≤ j ∧ (∀ c, bt s.1 c = true ↔ ∃ i, i + 1 < j ∧ f i = c) ∧ (∀ c, bt s.2 c = true ↔ ∃ i, j ≤ i ∧ i < m ∧ f i = c) ∧ ∀ i, 0 < i → i < j → (∃ j, j < i ∧ A (f i) (f j)) ∧ ∃ j, i < j ∧ j < m ∧ A (f i) (f j)) (fun o => (od_k A m f ∧ o = some 1) ∨ (¬ od_k A m f ∧ o = some 0)) ?_ ?_ mF 1 (0, s0) (Nat.lt_of_le_of_lt (show m - 1 ≤ 8 by omega) (by decide)) (by omega) ⟨by omega, h0, hs0, fun i h1 h2 => by omega⟩
  · intro n s hI
    show (od_k A m f ∧ f_X11_isOrder_L39 (nI (8 * k)) (nI m) (n + 1) s.1 s.2 (nI (m - 1)) y = some 1) ∨ (¬ od_k A m f ∧ f_X11_isOrder_L39 (nI (8 * k)) (nI m) (n + 1) s.1 s.2 (nI (m - 1)) y = some 0)
    rw [f_X11_isOrder_L39, nI_p (by omega), if_pos ((nI_leI (by omega) (by omega)).mpr (Nat.le_refl _))]
    exact Or.inl ⟨fun i h1 h2 => hI.2.2.2 i h1 (by omega), rfl⟩
  · intro n j s hj hI ih
    obtain ⟨i1, i2, i3, i4⟩ := hI
    show (od_k A m f ∧ f_X11_isOrder_L39 (nI (8 * k)) (nI m) (n + 1) s.1 s.2 (nI j) y = some 1) ∨ (¬ od_k A m f ∧ f_X11_isOrder_L39 (nI (8 * k)) (nI m) (n + 1) s.1 s.2 (nI j) y = some 0)
    have h8 := hf j (by omega)
    have h81 := hf (j - 1) (by omega)
    have e1 : nI (8 * k + j) - 1 = nI (8 * k + (j - 1)) := by rw [nI_p (by omega)]; congr 1; omega
    rw [f_X11_isOrder_L39, nI_p (by omega), if_neg (fun z => absurd ((nI_leI (by omega) (by omega)).mp z) (by omega)), nI_add, e1, if_pos (in_ok (by omega) (by decide)), if_pos (in_ok (by omega) (by decide)), if_pos (in_ok (by omega) (by decide)), cl (by omega), cl (by omega), hR j (by omega), hR (j - 1) (by omega), a8, if_pos (in_ok (by omega) (by decide)), cl (by omega), nI_1]
    have a1 : ∀ c, bt (s.1 ||| ((1 : Int32) <<< (nI (f (j - 1)) &&& 31))) c = true ↔ ∃ i, i + 1 < j + 1 ∧ f i = c := fun c => by
      rw [b_or, b_bit (by omega), Bool.or_eq_true, decide_eq_true_eq, i2 c]
      constructor
      · rintro (⟨i, q1, q2⟩ | rfl)
        · exact ⟨i, by omega, q2⟩
        · exact ⟨j - 1, by omega, rfl⟩
      · rintro ⟨i, q1, q2⟩
        by_cases e : i = j - 1
        · subst e; exact Or.inr q2.symm
        · exact Or.inl ⟨i, by omega, q2⟩
    have a2 : ∀ c, bt (s.2 &&& (((1 : Int32) <<< (nI (f j) &&& 31)) ^^^ (-1 : Int32))) c = true ↔ ∃ i, j + 1 ≤ i ∧ i < m ∧ f i = c := fun c => by
      rw [b_wo (by omega), Bool.and_eq_true, i3 c]
      constructor
      · rintro ⟨⟨i, q1, q2, q3⟩, q4⟩
        refine ⟨i, ?_, q2, q3⟩
        have : i ≠ j := fun e => by
          rw [← q3, e] at q4
          simp at q4
        omega
      · rintro ⟨i, q1, q2, q3⟩
        refine ⟨⟨i, by omega, q2, q3⟩, ?_⟩
        have : c ≠ f j := fun e => by have := hinj i j q2 (by omega) (q3.trans e); omega
        simp [this]
    by_cases c1 : ((y.1 293 (8 + f j)) &&& (s.1 ||| ((1 : Int32) <<< (nI (f (j - 1)) &&& 31)))) = 0
    · rw [if_pos c1]
      rw [b_and0] at c1
      refine Or.inr ⟨fun hk => ?_, rfl⟩
      obtain ⟨l, l1, l2⟩ := (hk j (by omega) (by omega)).1
      exact c1 (f l) ((hAb _ _ h8 (hf l (by omega))).mp l2) ((a1 _).mpr ⟨l, by omega, rfl⟩)
    · rw [if_neg c1]
      by_cases c2 : ((y.1 293 (8 + f j)) &&& (s.2 &&& (((1 : Int32) <<< (nI (f j) &&& 31)) ^^^ (-1 : Int32)))) = 0
      · rw [if_pos c2]
        rw [b_and0] at c2
        refine Or.inr ⟨fun hk => ?_, rfl⟩
        obtain ⟨l, l1, l2, l3⟩ := (hk j (by omega) (by omega)).2
        exact c2 (f l) ((hAb _ _ h8 (hf l l2)).mp l3) ((a2 _).mpr ⟨l, by omega, l2, rfl⟩)
      · rw [if_neg c2]
        refine ih (_, _) ⟨by omega, a1, a2, fun i h1 h2 => ?_⟩
        by_cases e : i = j
        · subst e
          constructor
          · refine Classical.byContradiction fun hc => c1 (b_and0.mpr fun c hc1 hc2 => ?_)
            obtain ⟨l, l1, rfl⟩ := (a1 c).mp hc2
            exact hc ⟨l, by omega, (hAb _ _ h8 (hf l (by omega))).mpr hc1⟩
          · refine Classical.byContradiction fun hc => c2 (b_and0.mpr fun c hc1 hc2 => ?_)
            obtain ⟨l, l1, l2, rfl⟩ := (a2 c).mp hc2
            exact hc ⟨l, by omega, l2, (hAb _ _ h8 (hf l l2)).mpr hc1⟩
        · exact i4 i h1 (by omega)
/-! the next row -/
theorem changes_ok {y : mY} {a b : Nat} (ha : a < 512) (hb : b < 512) : f_X11_changes (nI a) (nI b) y = some (m_ys (m_ys y 299 a (y.1 299 b)) 299 b (y.1 299 a)) := by
  unfold f_X11_changes
  rw [if_pos (in_ok ha (by decide)), if_pos (in_ok hb (by decide)), if_pos (in_ok ha (by decide)), cl (by omega), cl (by omega), m_let, if_pos (in_ok hb (by decide)), m_let]
theorem nextRow_1 {y : mY} (hk : k < 64) (hm : m ≤ 8) (hf : ∀ i, i < m → f i < 8) (hR : rr_R y k m f) {i : Nat} (hi : 0 < i) (hi2 : i + 2 < m) (ha : f i < f (i + 1)) (hd : ∀ l, i < l → l + 2 < m → f (l + 1) < f l) (kk : Int32 → Option mY) : ∀ n d, i ≤ d + 1 → d + 3 < m → d + 1 < n + i → f_X11_nextRow_L4 (nI (8 * k + 1)) n (nI d) y kk = kk (nI (i - 1)) := by
  intro n
  induction n with
  | zero => intro d h1 h2 h3; omega
  | succ n ih =>
    intro d h1 h2 h3
    rw [f_X11_nextRow_L4, nI_add, nI_1, if_pos (in_ok (by omega) (by decide)), if_pos (in_ok (by omega) (by decide)), cl (by omega), cl (by omega), show 8 * k + 1 + d = 8 * k + (d + 1) by omega, show 8 * k + (d + 1) + 1 = 8 * k + (d + 2) by omega, hR (d + 1) (by omega), hR (d + 2) (by omega)]
    have f1 := hf (d + 1) (by omega)
    have f2 := hf (d + 2) (by omega)
    by_cases e : d + 1 = i
    · rw [if_pos ((nI_leI (by omega) (by omega)).mpr (by rw [show d + 2 = i + 1 by omega, e]; omega)), show i - 1 = d by omega]
    · have hdd : f (d + 2) < f (d + 1) := hd (d + 1) (by omega) (by omega)
      rw [if_neg (fun z => by have := (nI_leI (by omega) (by omega)).mp z; omega), show nI d + (-1) = nI (d - 1) from sb_m1 (by omega)]
      exact ih (d - 1) (by omega) (by omega) (by omega)
theorem nextRow_2 {y : mY} (hk : k < 64) (hm : m ≤ 8) (hf : ∀ i, i < m → f i < 8) (hR : rr_R y k m f) {i j : Nat} (hi : 0 < i) (hij : i < j) (hj : j + 1 < m) (ha : f i < f j) (hd : ∀ l, j < l → l + 1 < m → f l < f i) (kk : Int32 → Option mY) : ∀ n d, j ≤ d + 1 → d + 2 < m → d + 1 < n + j → f_X11_nextRow_L36 (nI (8 * k + 1)) (nI (i - 1)) n (nI d) y kk = kk (nI (j - 1)) := by
  intro n
  induction n with
  | zero => intro d h1 h2 h3; omega
  | succ n ih =>
    intro d h1 h2 h3
    rw [f_X11_nextRow_L36, nI_add, nI_add, if_pos (in_ok (by omega) (by decide)), if_pos (in_ok (by omega) (by decide)), cl (by omega), cl (by omega), show 8 * k + 1 + d = 8 * k + (d + 1) by omega, show 8 * k + 1 + (i - 1) = 8 * k + i by omega, hR (d + 1) (by omega), hR i (by omega)]
    have f1 := hf (d + 1) (by omega)
    have f2 := hf i (by omega)
    by_cases e : d + 1 = j
    · rw [if_pos ((nI_leI (by omega) (by omega)).mpr (by rw [e]; omega)), show j - 1 = d by omega]
    · have := hd (d + 1) (by omega) (by omega)
      rw [if_neg (fun z => by have := (nI_leI (by omega) (by omega)).mp z; omega), show nI d + (-1) = nI (d - 1) from sb_m1 (by omega)]
      exact ih (d - 1) (by omega) (by omega) (by omega)
/-- the row k of the orders is written -/
def od_W (k q c : Nat) : Prop := q = 299 ∧ 8 * k ≤ c ∧ c < 8 * k + 8
theorem rr_swap {y : mY} {a b : Nat} (hR : rr_R y k m f) (ha : a < m) (hb : b < m) : rr_R (m_ys (m_ys y 299 (8 * k + a) (y.1 299 (8 * k + b))) 299 (8 * k + b) (y.1 299 (8 * k + a))) k m (fun c => if c = b then f a else if c = a then f b else f c) := by
  intro i hi
  rw [ys_at]
  by_cases e : i = b
  · rw [if_pos (by omega), hR a ha]
    show _ = nI (if i = b then f a else if i = a then f b else f i)
    rw [if_pos e]
  · rw [if_neg (by omega), ys_at]
    by_cases e2 : i = a
    · rw [if_pos (by omega), hR b hb]
      show _ = nI (if i = b then f a else if i = a then f b else f i)
      rw [if_neg e, if_pos e2]
    · rw [if_neg (by omega), hR i hi]
      show _ = nI (if i = b then f a else if i = a then f b else f i)
      rw [if_neg e, if_neg e2]
/-- turned round from the ends, up to lo and hi -/
def rv_f (S : Nat → Nat) (c lo hi q : Nat) : Nat := if q < lo ∨ hi < q then S (c - q) else S q
theorem nextRow_3 (hk : k < 64) (hm : m ≤ 8) {S : Nat → Nat} {i : Nat} (hi : 0 < i) (hi2 : i + 2 < m) (y0 : mY) : ∀ n lo hi' (y : mY), lo + hi' = i + m - 1 → i < lo → lo ≤ hi' + 1 → hi' + 1 < m → hi' + 1 < n + lo → yF (od_W k) y0 y → (∀ q, q < m → y.1 299 (8 * k + q) = nI (if i < q ∧ q + 1 < m then rv_f S (i + m - 1) lo hi' q else S q)) → ∃ y', f_X11_nextRow_L83 (nI (8 * k + 1)) n (nI (lo - 1)) (nI (hi' - 1)) y = some y' ∧ yF (od_W k) y0 y' ∧ rr_R y' k m (fun q => if i < q ∧ q + 1 < m then S (i + m - 1 - q) else S q) := by
  intro n
  induction n with
  | zero =>
    intro lo hi' y h1 h2 h3 h4 h5
    have : False := by omega
    exact this.elim
  | succ n ih =>
    intro lo hi' y h1 h2 h3 h4 h5 hF hR
    rw [f_X11_nextRow_L83]
    by_cases c : hi' ≤ lo
    · rw [if_pos ((nI_leI (by omega) (by omega)).mpr (by omega))]
      refine ⟨y, rfl, hF, fun q hq => ?_⟩
      rw [hR q hq]
      show nI _ = nI (if i < q ∧ q + 1 < m then S (i + m - 1 - q) else S q)
      by_cases cq : i < q ∧ q + 1 < m
      · rw [if_pos cq, if_pos cq]
        unfold rv_f
        by_cases c2 : q < lo ∨ hi' < q
        · rw [if_pos c2]
        · rw [if_neg c2, show i + m - 1 - q = q by omega]
      · rw [if_neg cq, if_neg cq]
    · rw [if_neg (fun z => by have := (nI_leI (by omega) (by omega)).mp z; omega), nI_add, nI_add, show 8 * k + 1 + (lo - 1) = 8 * k + lo by omega, show 8 * k + 1 + (hi' - 1) = 8 * k + hi' by omega, changes_ok (by omega) (by omega), Option.bind_some, nI_1, show nI (hi' - 1) + (-1) = nI (hi' - 1 - 1) from sb_m1 (by omega), show lo - 1 + 1 = (lo + 1) - 1 by omega]
      refine ih (lo + 1) (hi' - 1) _ (by omega) (by omega) (by omega) (by omega) (by omega) (yF_set (yF_set hF ⟨rfl, by omega, by omega⟩) ⟨rfl, by omega, by omega⟩) (fun q hq => ?_)
      rw [ys_at]
      by_cases e : q = hi'
      · rw [if_pos (by omega), hR lo (by omega), if_pos (by omega), if_pos (by omega)]
        unfold rv_f
        rw [if_neg (by omega), if_pos (by omega), show i + m - 1 - q = lo by omega]
      · rw [if_neg (by omega), ys_at]
        by_cases e2 : q = lo
        · rw [if_pos (by omega), hR hi' (by omega), if_pos (by omega), if_pos (by omega)]
          unfold rv_f
          rw [if_neg (by omega), if_pos (by omega), show i + m - 1 - q = hi' by omega]
        · rw [if_neg (by omega), hR q hq]
          by_cases cq : i < q ∧ q + 1 < m
          · rw [if_pos cq, if_pos cq]
            unfold rv_f
            by_cases c2 : q < lo ∨ hi' < q
            · rw [if_pos c2, if_pos (by omega)]
            · rw [if_neg c2, if_neg (by omega)]
          · rw [if_neg cq, if_neg cq]
theorem nextRow_ok {y : mY} (hk : k < 64) (hm : m ≤ 8) (hf : ∀ i, i < m → f i < 8) (hR : rr_R y k m f) {i j : Nat} (hi : 0 < i) (hi2 : i + 2 < m) (ha : f i < f (i + 1)) (hd : ∀ l, i < l → l + 2 < m → f (l + 1) < f l) (hij : i < j) (hj : j + 1 < m) (hj1 : f i < f j) (hj2 : ∀ l, j < l → l + 1 < m → f l < f i) : ∃ y', f_X11_nextRow (nI (8 * k + 1)) (nI (m - 2)) y = some y' ∧ yF (od_W k) y y' ∧ rr_R y' k m (fun q => f (nx_p m i j q)) := by
  unfold f_X11_nextRow
  rw [show nI (m - 2) - (2 : Int32) = nI (m - 2 - 2) from pk_sub (b := 2) (by omega), nextRow_1 hk hm hf hR hi hi2 ha hd _ mF (m - 2 - 2) (by omega) (by omega) (Nat.lt_of_lt_of_le (show m - 2 - 2 + 1 < mF from Nat.lt_of_lt_of_le (show m - 2 - 2 + 1 < 8 by omega) (by decide)) (by omega)), nI_p (by omega), nextRow_2 hk hm hf hR hi hij hj hj1 hj2 _ mF (m - 2 - 1) (by omega) (by omega) (Nat.lt_of_lt_of_le (show m - 2 - 1 + 1 < mF from Nat.lt_of_lt_of_le (show m - 2 - 1 + 1 < 8 by omega) (by decide)) (by omega)), nI_add, nI_add, show 8 * k + 1 + (i - 1) = 8 * k + i by omega, show 8 * k + 1 + (j - 1) = 8 * k + j by omega, changes_ok (by omega) (by omega), Option.bind_some, nI_1, show i - 1 + 1 = (i + 1) - 1 by omega, show m - 2 - 1 = (m - 2) - 1 by omega]
  have sw := rr_swap hR (a := i) (b := j) (by omega) (by omega)
  obtain ⟨y', e1, e2, e3⟩ := nextRow_3 (k := k) (m := m) hk hm (S := fun c => if c = j then f i else if c = i then f j else f c) hi hi2 y mF (i + 1) (m - 2) (m_ys (m_ys y 299 (8 * k + i) (y.1 299 (8 * k + j))) 299 (8 * k + j) (y.1 299 (8 * k + i))) (by omega) (by omega) (by omega) (by omega) (Nat.lt_of_lt_of_le (show m - 2 + 1 < mF from Nat.lt_of_lt_of_le (show m - 2 + 1 < 8 by omega) (by decide)) (Nat.le_add_right _ _)) (yF_set (yF_set (yF_rf _ _) ⟨rfl, by omega, by omega⟩) ⟨rfl, by omega, by omega⟩) (fun q hq => by
    rw [sw q hq]
    by_cases cq : i < q ∧ q + 1 < m
    · rw [if_pos cq]
      unfold rv_f
      rw [if_neg (by omega)]
    · rw [if_neg cq])
  refine ⟨y', e1, e2, fun q hq => ?_⟩
  rw [e3 q hq]
  show nI (if i < q ∧ q + 1 < m then (if i + m - 1 - q = j then f i else if i + m - 1 - q = i then f j else f (i + m - 1 - q)) else (if q = j then f i else if q = i then f j else f q)) = nI (f (nx_p m i j q))
  unfold nx_p
  by_cases cq : i < q ∧ q + 1 < m
  · rw [if_pos cq, if_pos cq]
    by_cases e : i + (m - 1) - q = j
    · rw [if_pos (by omega), if_pos e]
    · rw [if_neg (by omega), if_neg (by omega), if_neg e, show i + m - 1 - q = i + (m - 1) - q by omega]
  · rw [if_neg cq, if_neg cq, if_neg (by omega)]
    by_cases e : q = i
    · rw [if_pos e, if_pos e]
    · rw [if_neg e, if_neg e]
end R1
