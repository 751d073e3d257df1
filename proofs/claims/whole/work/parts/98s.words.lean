/-! ===== the text: words and kinds of tokens ===== -/
section TA
variable {B B' : Nat → Nat} {b r i j n m : Nat}
def vlw (B : Nat → Nat) (r i : Nat) : Nat → Nat
  | 0 => 0
  | n + 1 => vlw B r i n * r + (B (i + n) - 96)
def vdg (B : Nat → Nat) (i : Nat) : Nat → Nat
  | 0 => 0
  | n + 1 => vdg B i n * 10 + (B (i + n) - 48)
def ltr (B : Nat → Nat) (i n : Nat) : Prop := ∀ k, k < n → 97 ≤ B (i + k) ∧ B (i + k) ≤ 122
def wrd (B : Nat → Nat) (i n : Nat) : List Nat := (List.range n).map (fun k => B (i + k))
theorem wrd_eq : wrd B i n = wrd B' j m ↔ n = m ∧ ∀ k, k < n → B (i + k) = B' (j + k) := by
  unfold wrd
  constructor
  · intro h
    have e : n = m := by
      have := congrArg List.length h
      simpa using this
    subst e
    refine ⟨rfl, fun k hk => ?_⟩
    have := congrArg (fun l => l[k]?) h
    simpa [hk] using this
  · rintro ⟨rfl, h⟩
    refine List.map_congr_left (fun k hk => h k (List.mem_range.mp hk))
theorem vlw_inj (hr : 27 ≤ r) : ∀ n m, ltr B i n → ltr B' j m → (vlw B r i n = vlw B' r j m ↔ wrd B i n = wrd B' j m) := by
  intro n
  rw [show (∀ m, ltr B i n → ltr B' j m → (vlw B r i n = vlw B' r j m ↔ wrd B i n = wrd B' j m)) ↔ (∀ m, ltr B i n → ltr B' j m → (vlw B r i n = vlw B' r j m ↔ n = m ∧ ∀ k, k < n → B (i + k) = B' (j + k))) from forall_congr' fun m => by rw [wrd_eq]]
  induction n with
  | zero =>
    intro m h1 h2
    cases m with
    | zero => exact ⟨fun _ => ⟨rfl, fun k hk => by omega⟩, fun _ => rfl⟩
    | succ m =>
      constructor
      · intro z
        have := h2 m (by omega)
        have z : 0 = vlw B' r j m * r + (B' (j + m) - 96) := z
        omega
      · intro z
        omega
  | succ n ih =>
    intro m h1 h2
    cases m with
    | zero =>
      constructor
      · intro z
        have := h1 n (by omega)
        have z : vlw B r i n * r + (B (i + n) - 96) = 0 := z
        omega
      · intro z
        omega
    | succ m =>
      have a := h1 n (by omega)
      have c := h2 m (by omega)
      have t := ih m (fun k hk => h1 k (by omega)) (fun k hk => h2 k (by omega))
      constructor
      · intro z
        have z : vlw B r i n * r + (B (i + n) - 96) = vlw B' r j m * r + (B' (j + m) - 96) := z
        have q1 : (vlw B r i n * r + (B (i + n) - 96)) / r = vlw B r i n := by rw [Nat.mul_comm, Nat.mul_add_div (by omega), Nat.div_eq_of_lt (by omega), Nat.add_zero]
        have q2 : (vlw B' r j m * r + (B' (j + m) - 96)) / r = vlw B' r j m := by rw [Nat.mul_comm, Nat.mul_add_div (by omega), Nat.div_eq_of_lt (by omega), Nat.add_zero]
        have e : vlw B r i n = vlw B' r j m := by rw [← q1, ← q2, z]
        obtain ⟨e1, e2⟩ := t.mp e
        rw [e] at z
        refine ⟨by omega, fun k hk => ?_⟩
        by_cases ek : k = n
        · subst ek
          rw [← e1] at z
          omega
        · exact e2 k (by omega)
      · rintro ⟨e1, e2⟩
        have e1 : n = m := by omega
        subst e1
        have e := t.mpr ⟨rfl, fun k hk => e2 k (by omega)⟩
        show vlw B r i n * r + (B (i + n) - 96) = vlw B' r j n * r + (B' (j + n) - 96)
        rw [e, e2 n (by omega)]
theorem vlw_lt (hr : 27 ≤ r) : ∀ n, ltr B i n → vlw B r i n < r ^ n
  | 0, _ => Nat.one_pos
  | n + 1, h => by
    have ih := vlw_lt hr n (fun k hk => h k (by omega))
    have a := h n (by omega)
    show vlw B r i n * r + (B (i + n) - 96) < r ^ n * r
    have := Nat.mul_le_mul_right r (show vlw B r i n + 1 ≤ r ^ n from ih)
    rw [Nat.add_mul] at this
    omega
theorem vlw_63 (hr : 27 ≤ r) (hr2 : r ≤ 32) (hn : n ≤ 8) (h : ltr B i n) : vlw B r i n < 2 ^ 63 := by
  have h1 := vlw_lt hr n h
  have h2 : r ^ n ≤ 32 ^ n := Nat.pow_le_pow_left hr2 n
  have h3 : 32 ^ n ≤ 32 ^ 8 := Nat.pow_le_pow_right (by decide) hn
  have h4 : 32 ^ 8 < 2 ^ 63 := by decide
  omega
def KWD (q : Nat) : List Nat := [[112, 111, 115, 116], [108, 105, 110, 107], [111, 102, 102], [114, 111, 111, 116], [100, 111, 119, 110]].getD q []
def KWB (q k : Nat) : Nat := (KWD q).getD k 0
theorem KW_w : ∀ q, q < 5 → wrd (KWB q) 0 (KWD q).length = KWD q ∧ (KWD q).length ≤ 4 ∧ 3 ≤ (KWD q).length := by decide +kernel
theorem KW_l : ∀ q, q < 5 → ∀ k, k < (KWD q).length → 97 ≤ KWB q (0 + k) ∧ KWB q (0 + k) ≤ 122 := by decide +kernel
def KWN (q : Nat) : Nat := [326396, 243146, 11103, 365654, 90302].getD q 0
theorem KW_n : ∀ q, q < 5 → vlw (KWB q) 27 0 (KWD q).length = KWN q := by decide +kernel
theorem KW_i : ∀ q, q < 5 → ∀ p, p < 5 → KWD q = KWD p → q = p := by decide +kernel
theorem KW_iff {q : Nat} (hq : q < 5) (h : ltr B i n) : vlw B 27 i n = KWN q ↔ wrd B i n = KWD q := by
  have k := vlw_inj (r := 27) (B := B) (B' := KWB q) (i := i) (j := 0) (by decide) n (KWD q).length h (KW_l q hq)
  rw [KW_n q hq, (KW_w q hq).1] at k
  exact k
/-- the kind of a word, and of a token -/
def kdW (w : List Nat) : Nat := if w = KWD 0 then 20 else if w = KWD 1 then 21 else if w = KWD 2 then 22 else if w = KWD 3 then 23 else if w = KWD 4 then 24 else 1
def kdT (B : Nat → Nat) (i e : Nat) : Nat := if isLt (B i) = true then (if 8 < e - i then 3 else kdW (wrd B i (e - i))) else if isDg (B i) = true then (if 4 < e - i then 3 else 2) else if B i = 59 then 4 else 3
/-- the class's sort of a kind -/
def srt (k : Nat) : Nat := if k = 1 then 110 else if k = 2 then 105 else if k = 4 then 59 else if k = 20 then 112 else if k = 21 then 108 else if k = 22 then 111 else if k = 23 then 114 else if k = 24 then 100 else 63
theorem kdW_v (w : List Nat) : kdW w = 1 ∨ ∃ q, q < 5 ∧ kdW w = 20 + q ∧ w = KWD q := by
  unfold kdW
  by_cases c0 : w = KWD 0
  · rw [if_pos c0]; exact Or.inr ⟨0, by decide, rfl, c0⟩
  rw [if_neg c0]
  by_cases c1 : w = KWD 1
  · rw [if_pos c1]; exact Or.inr ⟨1, by decide, rfl, c1⟩
  rw [if_neg c1]
  by_cases c2 : w = KWD 2
  · rw [if_pos c2]; exact Or.inr ⟨2, by decide, rfl, c2⟩
  rw [if_neg c2]
  by_cases c3 : w = KWD 3
  · rw [if_pos c3]; exact Or.inr ⟨3, by decide, rfl, c3⟩
  rw [if_neg c3]
  by_cases c4 : w = KWD 4
  · rw [if_pos c4]; exact Or.inr ⟨4, by decide, rfl, c4⟩
  rw [if_neg c4]
  exact Or.inl rfl
theorem str_len : ∀ q, q < 5 → f_J0_length_8abf5 (q + 1) = some (nI (KWD q).length) := by decide +kernel
theorem str_at : ∀ q, q < 5 → ∀ k, k < (KWD q).length → f_J0_charAt_5068e (q + 1) (nI k) = some (nI (KWB q k)) := by decide +kernel
theorem KW_s : ∀ q, q < 5 → ∀ k, k < 4 → KWB q k < 256 := by decide +kernel
theorem spells_L {x : mX} (h : tpBx B b x) {q : Nat} (hq : q < 5) (hi : i + (KWD q).length ≤ b) : ∀ t k, k ≤ (KWD q).length → (KWD q).length - k < t → (∀ p, p < k → B (i + p) = KWB q p) → f_X5_spells_L15 (q + 1) (nI i) t (nI k) x = some (if wrd B i (KWD q).length = KWD q then 1 else 0)
  | 0, _, _, h, _ => absurd h (Nat.not_lt_zero _)
  | t + 1, k, hk, ht, hp => by
    have b2 := h.1
    have l4 := (KW_w q hq).2.1
    have w := wrd_eq (B := B) (B' := KWB q) (i := i) (j := 0) (n := (KWD q).length) (m := (KWD q).length)
    rw [(KW_w q hq).1] at w
    rw [f_X5_spells_L15, if_pos (by omega), str_len q hq, Option.bind_some]
    by_cases c : (KWD q).length ≤ k
    · rw [if_pos (nI_le c (by omega)), if_pos (w.mpr ⟨rfl, fun p hp' => by rw [Nat.zero_add]; exact hp p (by omega)⟩)]
    · rw [if_neg (nI_ge (by omega) (by omega)), nI_add, byte_x h (i + k) (by omega), Option.bind_some, if_pos (show q + 1 < 9 by omega), str_at q hq k (by omega), Option.bind_some, if_pos (show i + k < b by omega), nI_1]
      have b256 := (h.2.2 (i + k) (by omega)).1
      have s256 := KW_s q hq k (by omega)
      by_cases d : B (i + k) = KWB q k
      · rw [if_pos (by rw [d])]
        exact spells_L h hq hi t (k + 1) (by omega) (by omega) (fun p hp' => by
          by_cases e : p = k
          · rw [e]; exact d
          · exact hp p (by omega))
      · rw [if_neg (fun z => d ((nI_eq (by omega) (by omega)).mp z)), if_neg (fun z => d (by have := (w.mp z).2 k (by omega); rw [Nat.zero_add] at this; exact this))]
theorem spells_x {x : mX} (h : tpBx B b x) {q e : Nat} (hq : q < 5) (hie : i < e) (he : e ≤ b) : f_X5_spells (nI i) (nI e) (q + 1) x = some (if wrd B i (e - i) = KWD q then 1 else 0) := by
  have b2 := h.1
  have l4 := (KW_w q hq).2.1
  unfold f_X5_spells
  rw [if_pos (by omega), str_len q hq, Option.bind_some, nI_sb (by omega)]
  by_cases c : e - i = (KWD q).length
  · rw [if_pos (by rw [c]), c]
    exact spells_L h hq (by omega) mF 0 (by omega) (Nat.lt_of_le_of_lt (show (KWD q).length - 0 ≤ 4 by omega) (by decide)) (fun p hp => by omega)
  · rw [if_neg (fun z => c ((nI_eq (by omega) (by omega)).mp z)), if_neg (fun z => c (by
      have := congrArg List.length z
      unfold wrd at this
      simpa using this))]
end TA
