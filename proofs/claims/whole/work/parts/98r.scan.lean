/-! ===== the text: where its tokens lie ===== -/
section SZ
variable {B : Nat → Nat} {b : Nat} {P : Nat → Bool}
def isBl (c : Nat) : Bool := decide (c = 9 ∨ c = 10 ∨ c = 13 ∨ c = 32)
def isLt (c : Nat) : Bool := decide (97 ≤ c ∧ c ≤ 122)
def isDg (c : Nat) : Bool := decide (48 ≤ c ∧ c ≤ 57)
def enF (B : Nat → Nat) (P : Nat → Bool) : Nat → Nat → Nat
  | 0, i => i
  | n + 1, i => if P (B i) = true then enF B P n (i + 1) else i
/-- the end of what begins at i and is all P -/
def enP (B : Nat → Nat) (b : Nat) (P : Nat → Bool) (i : Nat) : Nat := enF B P (b - i) i
theorem enP_y {i : Nat} (hi : i < b) (h : P (B i) = true) : enP B b P i = enP B b P (i + 1) := by
  unfold enP
  rw [show b - i = (b - (i + 1)) + 1 by omega]
  show (if P (B i) = true then _ else _) = _
  rw [if_pos h]
theorem enP_n {i : Nat} (h : ¬ (i < b ∧ P (B i) = true)) : enP B b P i = i := by
  unfold enP
  by_cases hi : i < b
  · rw [show b - i = (b - (i + 1)) + 1 by omega]
    show (if P (B i) = true then _ else _) = _
    rw [if_neg (fun z => h ⟨hi, z⟩)]
  · rw [show b - i = 0 by omega]
    rfl
theorem enP_ok : ∀ n i, b - i = n → i ≤ enP B b P i ∧ (i ≤ b → enP B b P i ≤ b) ∧ (∀ j, i ≤ j → j < enP B b P i → j < b ∧ P (B j) = true) ∧ ¬ (enP B b P i < b ∧ P (B (enP B b P i)) = true)
  | 0, i, h => by
    have e : enP B b P i = i := enP_n (fun z => by omega)
    rw [e]
    exact ⟨Nat.le_refl _, fun h => h, fun j h1 h2 => by omega, fun z => by omega⟩
  | n + 1, i, h => by
    by_cases c : P (B i) = true
    · obtain ⟨k1, k2, k3, k4⟩ := enP_ok n (i + 1) (by omega)
      rw [enP_y (by omega) c]
      refine ⟨by omega, fun _ => k2 (by omega), fun j h1 h2 => ?_, k4⟩
      by_cases e : j = i
      · rw [e]; exact ⟨by omega, c⟩
      · exact k3 j (by omega) h2
    · rw [enP_n (fun z => c z.2)]
      exact ⟨Nat.le_refl _, fun h => h, fun j h1 h2 => by omega, fun z => c z.2⟩
/-- the end of the token at i -/
def tkE (B : Nat → Nat) (b i : Nat) : Nat := if isLt (B i) = true then enP B b isLt (i + 1) else if isDg (B i) = true then enP B b isDg (i + 1) else i + 1
/-- the place behind k tokens, the k-th token's place -/
def tkP (B : Nat → Nat) (b : Nat) : Nat → Nat
  | 0 => 0
  | k + 1 => if enP B b isBl (tkP B b k) < b then tkE B b (enP B b isBl (tkP B b k)) else b
def tkS (B : Nat → Nat) (b k : Nat) : Nat := enP B b isBl (tkP B b k)
theorem tkE_b {i : Nat} (hi : i < b) : i < tkE B b i ∧ tkE B b i ≤ b := by
  unfold tkE
  split
  · have := enP_ok (B := B) (b := b) (P := isLt) _ (i + 1) rfl
    exact ⟨by have := this.1; omega, this.2.1 (by omega)⟩
  · split
    · have := enP_ok (B := B) (b := b) (P := isDg) _ (i + 1) rfl
      exact ⟨by have := this.1; omega, this.2.1 (by omega)⟩
    · omega
theorem tkP_b : ∀ k, tkP B b k ≤ b
  | 0 => Nat.zero_le _
  | k + 1 => by
    show (if enP B b isBl (tkP B b k) < b then tkE B b (enP B b isBl (tkP B b k)) else b) ≤ b
    split
    · exact (tkE_b (by assumption)).2
    · exact Nat.le_refl _
theorem tkS_b (k : Nat) : tkS B b k ≤ b := (enP_ok (B := B) (b := b) (P := isBl) _ (tkP B b k) rfl).2.1 (tkP_b k)
theorem tkP_s {k : Nat} (h : tkS B b k < b) : tkP B b (k + 1) = tkE B b (tkS B b k) := if_pos h
/-- the bytes of the class's tape -/
def tpBx (B : Nat → Nat) (b : Nat) (x : mX) : Prop := b ≤ 2000 ∧ x.1 1 0 = nI b ∧ ∀ i, i < b → B i < 256 ∧ x.1 7 i &&& 255 = nI (B i)
/-- the bytes of the reference's text -/
def tpBy (B : Nat → Nat) (b : Nat) (y : mY) : Prop := b ≤ 2000 ∧ y.1 279 4 = nI b ∧ ∀ i, i < b → B i < 256 ∧ y.1 281 i &&& 255 = nI (B i)
theorem byte_x {x : mX} (h : tpBx B b x) (i : Nat) (hi : i < 100000) : f_X5_byteAt (nI i) x = some (if i < b then nI (B i) else -1) := by
  have b2 := h.1
  unfold f_X5_byteAt
  rw [if_neg (nI_pos (by omega)), h.2.1]
  by_cases c : i < b
  · rw [if_neg (nI_ge c (by omega)), if_neg (show ¬ (2000 : Int32) ≤ nI i from nI_ge (b := 2000) (by omega) (by decide)), if_pos (in_ok (by omega) (by decide)), cl hi, (h.2.2 i c).2, if_pos c]
  · rw [if_pos (nI_le (by omega) (by omega)), if_neg c]
theorem byte_y {y : mY} (h : tpBy B b y) (i : Nat) (hi : i < 100000) : f_X11_byteAt (nI i) y = some (if i < b then nI (B i) else 0) := by
  have b2 := h.1
  unfold f_X11_byteAt
  rw [h.2.1]
  by_cases c : i < b
  · rw [if_neg (nI_ge c (by omega)), if_pos (in_ok (by omega) (by decide)), cl hi, (h.2.2 i c).2, if_pos c]
  · rw [if_pos (nI_le (by omega) (by omega)), if_neg c]
theorem cB : ∀ c, c < 256 → f_X5_isBlank (nI c) = (if isBl c = true then 1 else 0) ∧ f_X5_isLetter (nI c) = (if isLt c = true then 1 else 0) ∧ f_X5_isDigit (nI c) = (if isDg c = true then 1 else 0) := by decide +kernel
theorem cM : f_X5_isBlank (-1) = 0 ∧ f_X5_isLetter (-1) = 0 ∧ f_X5_isDigit (-1) = 0 ∧ f_X11_isLetter 0 = 0 ∧ f_X11_isDigit 0 = 0 := by decide +kernel
theorem x11_lt (c : Int32) : f_X11_isLetter c = f_X5_isLetter c ∧ f_X11_isDigit c = f_X5_isDigit c := ⟨rfl, rfl⟩
/-- a byte, or -1 behind the end, held against what is asked -/
theorem bl_x {x : mX} (h : tpBx B b x) {i : Nat} : f_X5_isBlank (if i < b then nI (B i) else -1) = (if i < b ∧ isBl (B i) = true then 1 else 0) := by
  by_cases c : i < b
  · rw [if_pos c, (cB _ (h.2.2 i c).1).1]
    by_cases d : isBl (B i) = true
    · rw [if_pos d, if_pos ⟨c, d⟩]
    · rw [if_neg d, if_neg (fun z => d z.2)]
  · rw [if_neg c, if_neg (fun z => c z.1)]
    exact cM.1
theorem lt_x {x : mX} (h : tpBx B b x) {i : Nat} : f_X5_isLetter (if i < b then nI (B i) else -1) = (if i < b ∧ isLt (B i) = true then 1 else 0) := by
  by_cases c : i < b
  · rw [if_pos c, (cB _ (h.2.2 i c).1).2.1]
    by_cases d : isLt (B i) = true
    · rw [if_pos d, if_pos ⟨c, d⟩]
    · rw [if_neg d, if_neg (fun z => d z.2)]
  · rw [if_neg c, if_neg (fun z => c z.1)]
    exact cM.2.1
theorem dg_x {x : mX} (h : tpBx B b x) {i : Nat} : f_X5_isDigit (if i < b then nI (B i) else -1) = (if i < b ∧ isDg (B i) = true then 1 else 0) := by
  by_cases c : i < b
  · rw [if_pos c, (cB _ (h.2.2 i c).1).2.2]
    by_cases d : isDg (B i) = true
    · rw [if_pos d, if_pos ⟨c, d⟩]
    · rw [if_neg d, if_neg (fun z => d z.2)]
  · rw [if_neg c, if_neg (fun z => c z.1)]
    exact cM.2.2.1
theorem blanks_L {x : mX} (h : tpBx B b x) : ∀ n i r, i ≤ b → r + (b - i) ≤ 2000 → b - i < n → f_X5_afterBlanks_L4 n (nI i) (nI r) x = some (nI (enP B b isBl i))
  | 0, _, _, _, _, h => absurd h (Nat.not_lt_zero _)
  | n + 1, i, r, hi, hr, hn => by
    have b2 := h.1
    rw [f_X5_afterBlanks_L4]
    by_cases c : 2000 ≤ r
    · rw [if_pos (show (2000 : Int32) ≤ nI r from nI_le (a := 2000) c (by omega)), enP_n (fun z => by omega)]
    · rw [if_neg (show ¬ (2000 : Int32) ≤ nI r from nI_ge (b := 2000) (by omega) (by decide)), byte_x h i (by omega), Option.bind_some, bl_x h]
      by_cases d : i < b ∧ isBl (B i) = true
      · rw [if_pos d, if_neg (show ¬ (1 : Int32) = 0 by decide), nI_1, nI_1, blanks_L h n (i + 1) (r + 1) (by omega) (by omega) (by omega), enP_y d.1 d.2]
      · rw [if_neg d, if_pos rfl, enP_n d]
theorem afterBlanks_x {x : mX} (h : tpBx B b x) {i : Nat} (hi : i ≤ b) : f_X5_afterBlanks (nI i) x = some (nI (enP B b isBl i)) := by
  have b2 := h.1
  unfold f_X5_afterBlanks
  exact blanks_L h mF i 0 hi (by omega) (Nat.lt_of_le_of_lt (show b - i ≤ 2000 by omega) (by decide))
theorem tend_L {x : mX} (h : tpBx B b x) {fl fd : Int32} {P : Nat → Bool} (hf : (fl = 1 ∧ fd = 0 ∧ P = isLt) ∨ (fl = 0 ∧ fd = 1 ∧ P = isDg) ∨ (fl = 0 ∧ fd = 0 ∧ P = fun _ => false)) : ∀ n i r, i ≤ b → r + (b - i) ≤ 2000 → b - i < n → f_X5_tokenEnd_L26 fl fd n (nI i) (nI r) x = some (nI (enP B b P i))
  | 0, _, _, _, _, h => absurd h (Nat.not_lt_zero _)
  | n + 1, i, r, hi, hr, hn => by
    have b2 := h.1
    rw [f_X5_tokenEnd_L26]
    by_cases c : 2000 ≤ r
    · rw [if_pos (show (2000 : Int32) ≤ nI r from nI_le (a := 2000) c (by omega)), enP_n (fun z => by omega)]
    · rw [if_neg (show ¬ (2000 : Int32) ≤ nI r from nI_ge (b := 2000) (by omega) (by decide)), byte_x h i (by omega), Option.bind_some, m_jn, lt_x h, dg_x h, nI_1, nI_1]
      dsimp only
      have go : i < b → P (B i) = true → f_X5_tokenEnd_L26 fl fd n (nI (i + 1)) (nI (r + 1)) x = some (nI (enP B b P i)) := fun h1 h2 => by
        rw [tend_L h hf n (i + 1) (r + 1) (by omega) (by omega) (by omega), enP_y h1 h2]
      rcases hf with ⟨rfl, rfl, rfl⟩ | ⟨rfl, rfl, rfl⟩ | ⟨rfl, rfl, rfl⟩
      · rw [if_neg (show ¬ (1 : Int32) = 0 by decide), if_pos (show (0 : Int32) = 0 from rfl)]
        by_cases d : i < b ∧ isLt (B i) = true
        · rw [if_pos d, if_neg (show ¬ (1 : Int32) = 0 by decide)]
          exact go d.1 d.2
        · rw [if_neg d, if_pos rfl, enP_n d]
      · rw [if_pos (show (0 : Int32) = 0 from rfl), if_neg (show ¬ (1 : Int32) = 0 by decide)]
        by_cases d : i < b ∧ isDg (B i) = true
        · rw [if_pos d, if_neg (show ¬ (1 : Int32) = 0 by decide)]
          exact go d.1 d.2
        · rw [if_neg d, if_pos rfl, enP_n d]
      · rw [if_pos (show (0 : Int32) = 0 from rfl), if_pos (show (0 : Int32) = 0 from rfl), enP_n (fun z => by cases z.2)]
theorem tokenEnd_x {x : mX} (h : tpBx B b x) {i : Nat} (hi : i < b) : f_X5_tokenEnd (nI i) x = some (nI (tkE B b i)) := by
  have b2 := h.1
  have ex : ∀ c, c < 256 → isLt c = true → ¬ isDg c = true := by decide +kernel
  unfold f_X5_tokenEnd tkE
  rw [byte_x h i (by omega), Option.bind_some, Option.bind_some, lt_x h, dg_x h, nI_1]
  have F : b - (i + 1) < mF := Nat.lt_of_le_of_lt (show b - (i + 1) ≤ 2000 by omega) (by decide)
  by_cases c : isLt (B i) = true
  · rw [if_pos ⟨hi, c⟩, if_neg (fun z => ex _ (h.2.2 i hi).1 c z.2), if_pos c]
    exact tend_L h (Or.inl ⟨rfl, rfl, rfl⟩) mF (i + 1) 0 (by omega) (by omega) F
  · rw [if_neg (fun z => c z.2), if_neg c]
    by_cases d : isDg (B i) = true
    · rw [if_pos ⟨hi, d⟩, if_pos d]
      exact tend_L h (Or.inr (Or.inl ⟨rfl, rfl, rfl⟩)) mF (i + 1) 0 (by omega) (by omega) F
    · rw [if_neg (fun z => d z.2), if_neg d]
      have := tend_L h (P := fun _ => false) (Or.inr (Or.inr ⟨rfl, rfl, rfl⟩)) mF (i + 1) 0 (by omega) (by omega) F
      rw [enP_n (fun z => by cases z.2)] at this
      exact this
end SZ
