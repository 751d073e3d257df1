/-! ===== cheap and pair, of both ===== -/
section V6
variable {σ : Nat → Int32} {L may : Int32} {np s d : Nat}
def wz_W (q c : Nat) : Prop := wy_W q c ∨ q = 293
theorem laysWays_ok (y : mY) (hW : sW (y.1 289) np) (hs : s < 8) (hd : d < 8) : ∃ L may y', sL (y.1 289) L ∧ (∀ q, bt may q = true ↔ bt (y.1 289 0) q = true ∧ q ≠ s ∧ q ≠ d) ∧ f_X11_laysWays (nI s) (nI d) y = some y' ∧ yF wz_W y y' ∧ wy_Y y' (y.1 289) L may s d := by
  unfold f_X11_laysWays
  obtain ⟨L, y1, l1, l2, l3, l4⟩ := laysNet_ok (np := np) (w := 0) (by decide) y hW
  have hL : sL (y.1 289) L := by
    rcases l1 with ⟨_, z⟩ | ⟨z, _⟩
    · exact z
    · omega
  have e289 : y1.1 289 = y.1 289 := l3.1 289 (by decide)
  rw [show f_X11_laysNet (0 : Int32) = f_X11_laysNet (nI 0) from rfl, l2, Option.bind_some]
  dsimp only
  rw [e289]
  have hy1 : nY0 y1 (y.1 289) L := ⟨e289, fun p q hp hq => by
    rw [← l4]
    show (p < 8 ∧ q < 8 ∧ bt (y1.1 293 (8 * 0 + p)) q = true) ↔ _
    rw [show 8 * 0 + p = p by omega]
    exact ⟨fun z => z.2.2, fun z => ⟨hp, hq, z⟩⟩⟩
  obtain ⟨y', w1, w2, w3⟩ := ways_3 (may := (y.1 289 0 &&& (((1 : Int32) <<< (nI s &&& 31)) ^^^ (-1 : Int32))) &&& (((1 : Int32) <<< (nI d &&& 31)) ^^^ (-1 : Int32))) (s := s) (d := d) hW (fun l hl => ((hL l).mp hl).1) hs hd y1 hy1
  refine ⟨L, _, y', hL, fun q => ?_, w1, yF_tr (yF_mo (yF_R l3) (fun q c z => Or.inr z.1)) (yF_mo w2 (fun q c z => Or.inl z)), w3⟩
  rw [b_wo (by omega), Bool.and_eq_true, b_wo (by omega), Bool.and_eq_true]
  simp [and_assoc]
theorem PV_lt (hW : sW σ np) {t c : Nat} (h : PV σ L may s d t c) : c < 2000 := pv_lt (sC_W hW L) h.2
theorem cheap_L (hW : sW σ np) (y : mY) (hy : wy_Y y σ L may s d) : ∃ r, f_X11_cheap_L24 mF 1000000 0 y = some ((if r < 1000000 then nI r else -2), y) ∧ mr (fun c => ∃ t, t < 256 ∧ PV σ L may s d t c) r := by
  have hlt : ∀ (j : Nat) c, (∃ t, t < j ∧ PV σ L may s d t c) → c < 1000000 := fun j c ⟨t, _, h⟩ => by have := PV_lt hW h; omega
  refine lp_up 256 (fun n b (m : Nat) => f_X11_cheap_L24 n (nI m) b y) (fun j m => mr (fun c => ∃ t, t < j ∧ PV σ L may s d t c) m) (fun o => ∃ r, o = some ((if r < 1000000 then nI r else -2), y) ∧ mr (fun c => ∃ t, t < 256 ∧ PV σ L may s d t c) r) ?_ ?_ mF 0 1000000 (by decide) (by decide) (Or.inr ⟨fun c ⟨t, h, _⟩ => by omega, rfl⟩)
  · intro n m hI
    show ∃ r, f_X11_cheap_L24 (n + 1) (nI m) (nI 256) y = some ((if r < 1000000 then nI r else -2), y) ∧ _
    have hml := mr_le (hlt 256) hI
    rw [f_X11_cheap_L24, if_pos (by decide)]
    refine ⟨m, ?_, hI⟩
    by_cases c : m < 1000000
    · rw [if_neg (show ¬ (1000000 : Int32) ≤ nI m from fun z => by have := (nI_leI (a := 1000000) (by omega) (by omega)).mp z; omega), if_pos c]
    · rw [if_pos (show (1000000 : Int32) ≤ nI m from (nI_leI (a := 1000000) (by omega) (by omega)).mpr (by omega)), if_neg c]
  · intro n j m hj hI ih
    show ∃ r, f_X11_cheap_L24 (n + 1) (nI m) (nI j) y = some ((if r < 1000000 then nI r else -2), y) ∧ _
    obtain ⟨r, r1, r2, r3⟩ := hy j hj
    have hml := mr_le (hlt j) hI
    have hcd : cd (fun c => PV σ L may s d j c) r := by
      rcases r2 with h | ⟨h1, h2⟩
      · exact Or.inl h
      · exact Or.inr ⟨h1, by omega⟩
    have hor := mr_or (hlt j) (fun c hc => by have := PV_lt hW hc; omega) hI hcd
    have conv : ∀ m', mr (fun c => (∃ t, t < j ∧ PV σ L may s d t c) ∨ PV σ L may s d j c) m' → mr (fun c => ∃ t, t < j + 1 ∧ PV σ L may s d t c) m' := fun m' h => (mr_cong (fun c => by
      constructor
      · rintro (⟨t, t1, t2⟩ | h)
        · exact ⟨t, by omega, t2⟩
        · exact ⟨j, by omega, h⟩
      · rintro ⟨t, t1, t2⟩
        by_cases e : t = j
        · exact Or.inr (e ▸ t2)
        · exact Or.inl ⟨t, by omega, t2⟩)).mp h
    rw [f_X11_cheap_L24, if_neg (k256f hj), if_pos (in_ok hj (by decide)), cl (by omega), r1, nI_1]
    by_cases c : m ≤ r
    · rw [if_pos ((nI_leI (by omega) (by omega)).mpr c)]
      exact ih m (conv m (hor.1 c))
    · rw [if_neg (fun z => c ((nI_leI (by omega) (by omega)).mp z)), if_pos (in_ok hj (by decide))]
      exact ih r (conv r (hor.2 (by omega)))
/-- by numbers of sets, or by sets: the same -/
theorem PV_set (hmay : ∀ q, bt may q = true ↔ bt (σ 0) q = true ∧ q ≠ s ∧ q ≠ d) (h8 : b8 (σ 0)) {c : Nat} : (∃ t, t < 256 ∧ PV σ L may s d t c) ↔ ∃ T : Nat → Prop, (∀ q, T q → bS (σ 0) q ∧ q ≠ s ∧ q ≠ d) ∧ pv (sC σ L) s d T c := by
  constructor
  · rintro ⟨t, _, h1, h2⟩
    exact ⟨bS (nI t), fun q hq => (hmay q).mp (h1 q hq), h2⟩
  · rintro ⟨T, h1, h2⟩
    obtain ⟨t, ht, hb⟩ := b_mk T
    have e : bS (nI t) = T := funext fun q => propext ((hb q).trans ⟨fun z => z.2, fun z => ⟨h8 q (h1 q z).1, z⟩⟩)
    exact ⟨t, ht, fun q hq => (hmay q).mpr (h1 q (by rw [← e]; exact hq)), by rw [e]; exact h2⟩
/-! pair -/
/-- two sets share no post -/
def dj (a b : Nat) : Prop := ∀ q, bt (nI a) q = true → ¬ bt (nI b) q = true
def PP (σ : Nat → Int32) (L may : Int32) (s d j c : Nat) : Prop := ∃ a b c1 c2, a < j ∧ b < a ∧ dj a b ∧ PV σ L may s d a c1 ∧ PV σ L may s d b c2 ∧ c = c1 + c2
theorem PP_lt (hW : sW σ np) {j c : Nat} (h : PP σ L may s d j c) : c < 1000000 := by
  obtain ⟨a, b, c1, c2, _, _, _, h1, h2, h3⟩ := h
  have := PV_lt hW h1
  have := PV_lt hW h2
  omega
theorem pair_in (hW : sW σ np) (y : mY) (hy : wy_Y y σ L may s d) {a : Nat} (ha : a < 256) {m0 : Nat} (h0 : mr (fun c => PP σ L may s d a c) m0) {Q : Option (Int32 × mY) → Prop} (kk : Int32 → Option (Int32 × mY)) (hq : ∀ m, mr (fun c => PP σ L may s d (a + 1) c) m → Q (kk (nI m))) : Q (f_X11_pair_L35 (nI a) mF (nI m0) 0 y kk) := by
  obtain ⟨ra, a1, a2, a3⟩ := hy a ha
  have hlt : ∀ (j : Nat) c, (PP σ L may s d a c ∨ ∃ b c1 c2, b < j ∧ dj a b ∧ PV σ L may s d a c1 ∧ PV σ L may s d b c2 ∧ c = c1 + c2) → c < 1000000 := fun j c h => by
    rcases h with h | ⟨b, c1, c2, _, _, h1, h2, h3⟩
    · exact PP_lt hW h
    · have := PV_lt hW h1
      have := PV_lt hW h2
      omega
  have fin : ∀ m, mr (fun c => PP σ L may s d a c ∨ ∃ b c1 c2, b < a ∧ dj a b ∧ PV σ L may s d a c1 ∧ PV σ L may s d b c2 ∧ c = c1 + c2) m → Q (kk (nI m)) := fun m hm => hq m ((mr_cong (fun c => by
    constructor
    · rintro (⟨a', b, c1, c2, h1, h2⟩ | ⟨b, c1, c2, h1, h2, h3⟩)
      · exact ⟨a', b, c1, c2, by omega, h2⟩
      · exact ⟨a, b, c1, c2, by omega, h1, h2, h3⟩
    · rintro ⟨a', b, c1, c2, h1, h2, h3⟩
      by_cases e : a' = a
      · subst e; exact Or.inr ⟨b, c1, c2, h2, h3⟩
      · exact Or.inl ⟨a', b, c1, c2, by omega, h2, h3⟩)).mp hm)
  refine lp_up a (fun n b (m : Nat) => f_X11_pair_L35 (nI a) n (nI m) b y kk) (fun j m => mr (fun c => PP σ L may s d a c ∨ ∃ b c1 c2, b < j ∧ dj a b ∧ PV σ L may s d a c1 ∧ PV σ L may s d b c2 ∧ c = c1 + c2) m) Q ?_ ?_ mF 0 m0 (Nat.lt_trans ha (by decide)) (by omega) ((mr_cong (fun c => ⟨Or.inl, fun h => h.elim id (fun ⟨b, c1, c2, h, _⟩ => by omega)⟩)).mp h0)
  · intro n m hI
    show Q (f_X11_pair_L35 (nI a) (n + 1) (nI m) (nI a) y kk)
    rw [f_X11_pair_L35, if_pos ((nI_leI (by omega) (by omega)).mpr (Nat.le_refl _))]
    exact fin m hI
  · intro n j m hj hI ih
    show Q (f_X11_pair_L35 (nI a) (n + 1) (nI m) (nI j) y kk)
    have hml := mr_le (hlt j) hI
    rw [f_X11_pair_L35, if_neg (fun z => absurd ((nI_leI (by omega) (by omega)).mp z) (by omega)), if_pos (in_ok ha (by decide)), cl (by omega), a1, nI_1]
    by_cases c1 : 1000000 ≤ ra
    · rw [if_pos (show (1000000 : Int32) ≤ nI ra from (nI_leI (a := 1000000) (by omega) (by omega)).mpr c1)]
      have hno : ∀ c, ¬ PV σ L may s d a c := by
        rcases a2 with ⟨h, _⟩ | ⟨h, _⟩
        · have := PV_lt hW h; omega
        · exact h
      refine fin m ((mr_cong (fun c => ?_)).mp hI)
      refine or_congr Iff.rfl ⟨fun ⟨b, c1, c2, _, _, h, _⟩ => absurd h (hno c1), fun ⟨b, c1, c2, _, _, h, _⟩ => absurd h (hno c1)⟩
    · rw [if_neg (show ¬ (1000000 : Int32) ≤ nI ra from fun z => c1 ((nI_leI (a := 1000000) (by omega) (by omega)).mp z))]
      have conv : ∀ m', mr (fun c => (PP σ L may s d a c ∨ ∃ b c1 c2, b < j ∧ dj a b ∧ PV σ L may s d a c1 ∧ PV σ L may s d b c2 ∧ c = c1 + c2) ∨ (dj a j ∧ ∃ c1 c2, PV σ L may s d a c1 ∧ PV σ L may s d j c2 ∧ c = c1 + c2)) m' → mr (fun c => PP σ L may s d a c ∨ ∃ b c1 c2, b < j + 1 ∧ dj a b ∧ PV σ L may s d a c1 ∧ PV σ L may s d b c2 ∧ c = c1 + c2) m' := fun m' h => (mr_cong (fun c => by
        constructor
        · rintro ((h | ⟨b, c1, c2, h1, h2⟩) | ⟨h1, c1, c2, h2⟩)
          · exact Or.inl h
          · exact Or.inr ⟨b, c1, c2, by omega, h2⟩
          · exact Or.inr ⟨j, c1, c2, by omega, h1, h2⟩
        · rintro (h | ⟨b, c1, c2, h1, h2, h3⟩)
          · exact Or.inl (Or.inl h)
          · by_cases e : b = j
            · subst e; exact Or.inr ⟨h2, c1, c2, h3⟩
            · exact Or.inl (Or.inr ⟨b, c1, c2, by omega, h2, h3⟩))).mp h
      by_cases c2 : (nI a &&& nI j) = 0
      · have hdj : dj a j := fun q hq => b_and0.mp c2 q hq
        obtain ⟨rj, b1, b2, b3⟩ := hy j (by omega)
        have hor := mr_or (hlt j) (fun c (h : dj a j ∧ ∃ c1 c2, PV σ L may s d a c1 ∧ PV σ L may s d j c2 ∧ c = c1 + c2) => by
          obtain ⟨_, c1, c2, h1, h2, h3⟩ := h
          have := PV_lt hW h1
          have := PV_lt hW h2
          omega) hI (k := ra + rj) (by
          rcases mr_add a2 b2 with ⟨h1, h2⟩ | ⟨h1, h2⟩
          · exact Or.inl ⟨⟨hdj, h1⟩, fun c hc => h2 c hc.2⟩
          · exact Or.inr ⟨fun c hc => h1 c hc.2, h2⟩)
        rw [if_pos c2, if_pos (in_ok ha (by decide)), if_pos (in_ok (by omega) (by decide)), cl (by omega), b1, nI_add]
        by_cases c3 : m ≤ ra + rj
        · rw [if_pos ((nI_leI (by omega) (by omega)).mpr c3)]
          exact ih m (conv m (hor.1 c3))
        · rw [if_neg (fun z => c3 ((nI_leI (by omega) (by omega)).mp z)), if_pos (in_ok ha (by decide)), if_pos (in_ok (by omega) (by decide))]
          exact ih (ra + rj) (conv _ (hor.2 (by omega)))
      · rw [if_neg c2]
        refine ih m (conv m ((mr_cong (fun c => ⟨Or.inl, fun h => h.elim id (fun w => absurd (b_and0.mpr fun q h1 h2 => w.1 q h1 h2) c2)⟩)).mp hI))
theorem pair_L (hW : sW σ np) (y : mY) (hy : wy_Y y σ L may s d) : ∃ r, f_X11_pair_L24 mF 1000000 1 y = some ((if r < 1000000 then nI r else -2), y) ∧ mr (fun c => PP σ L may s d 256 c) r := by
  refine lp_up 256 (fun n b (m : Nat) => f_X11_pair_L24 n (nI m) b y) (fun j m => mr (fun c => PP σ L may s d j c) m) (fun o => ∃ r, o = some ((if r < 1000000 then nI r else -2), y) ∧ mr (fun c => PP σ L may s d 256 c) r) ?_ ?_ mF 1 1000000 (by decide) (by decide) (Or.inr ⟨fun c ⟨a, b, c1, c2, h1, h2, _⟩ => by omega, rfl⟩)
  · intro n m hI
    show ∃ r, f_X11_pair_L24 (n + 1) (nI m) (nI 256) y = some ((if r < 1000000 then nI r else -2), y) ∧ _
    have hml := mr_le (fun c hc => PP_lt hW hc) hI
    rw [f_X11_pair_L24, if_pos (by decide)]
    refine ⟨m, ?_, hI⟩
    by_cases c : m < 1000000
    · rw [if_neg (show ¬ (1000000 : Int32) ≤ nI m from fun z => by have := (nI_leI (a := 1000000) (by omega) (by omega)).mp z; omega), if_pos c]
    · rw [if_pos (show (1000000 : Int32) ≤ nI m from (nI_leI (a := 1000000) (by omega) (by omega)).mpr (by omega)), if_neg c]
  · intro n j m hj hI ih
    show ∃ r, f_X11_pair_L24 (n + 1) (nI m) (nI j) y = some ((if r < 1000000 then nI r else -2), y) ∧ _
    rw [f_X11_pair_L24, if_neg (k256f hj), nI_1]
    exact pair_in (Q := fun o => ∃ r, o = some ((if r < 1000000 then nI r else -2), y) ∧ mr (fun c => PP σ L may s d 256 c) r) hW y hy hj hI _ (fun m' hm' => ih m' hm')
end V6
