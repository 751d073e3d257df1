/-! ===== bits of an Int32, small numbers, the two memories ===== -/
def bt (x : Int32) (i : Nat) : Bool := x.toBitVec.getLsbD i
theorem b_ext {x y : Int32} (h : ∀ i, i < 32 → bt x i = bt y i) : x = y := Int32.toBitVec_inj.mp (BitVec.eq_of_getLsbD_eq (fun i hi => h i hi))
theorem b_or (x y : Int32) (i : Nat) : bt (x ||| y) i = (bt x i || bt y i) := by unfold bt; rw [Int32.toBitVec_or, BitVec.getLsbD_or]
theorem b_and (x y : Int32) (i : Nat) : bt (x &&& y) i = (bt x i && bt y i) := by unfold bt; rw [Int32.toBitVec_and, BitVec.getLsbD_and]
theorem b_xor (x y : Int32) (i : Nat) : bt (x ^^^ y) i = (bt x i ^^ bt y i) := by unfold bt; rw [Int32.toBitVec_xor, BitVec.getLsbD_xor]
theorem b_big {x : Int32} {i : Nat} (h : 32 ≤ i) : bt x i = false := BitVec.getLsbD_of_ge _ _ h
theorem b_m1 : ∀ i, i < 32 → bt (-1) i = true := by decide +kernel
theorem b_0 (i : Nat) : bt 0 i = false := BitVec.getLsbD_zero
theorem s_l : ∀ n, n < 32 → ((nI n &&& 31).toBitVec.smod 32).toNat = n := by decide +kernel
theorem b_sshr (n : Nat) (hn : n < 32) (x : Int32) {i : Nat} (hi : i < 32) : bt (x >>> (nI n &&& 31)) i = if n + i < 32 then bt x (n + i) else bt x 31 := by
  unfold bt
  rw [Int32.toBitVec_shiftRight]
  show (x.toBitVec.sshiftRight ((nI n &&& 31).toBitVec.smod 32).toNat).getLsbD i = _
  rw [s_l n hn, BitVec.getLsbD_sshiftRight, BitVec.msb_eq_getLsbD_last]
  simp [hi]
theorem b_1 (i : Nat) : bt 1 i = decide (i = 0) := by
  rcases Nat.lt_or_ge i 32 with h | h
  · exact (by decide +kernel : ∀ i, i < 32 → bt 1 i = decide (i = 0)) i h
  · rw [b_big h, decide_eq_false (by omega)]
theorem b_not (x : Int32) {i : Nat} (h : i < 32) : bt (x ^^^ (-1)) i = !bt x i := by
  rw [b_xor, b_m1 i h]
  cases bt x i <;> rfl
theorem b_bit {n : Nat} (hn : n < 32) (i : Nat) : bt ((1 : Int32) <<< (nI n &&& 31)) i = decide (i = n) := by
  rcases Nat.lt_or_ge i 32 with h | h
  · exact (by decide +kernel : ∀ n, n < 32 → ∀ i, i < 32 → bt ((1 : Int32) <<< (nI n &&& 31)) i = decide (i = n)) n hn i h
  · rw [b_big h, decide_eq_false (by omega)]
theorem b_wo {n : Nat} (hn : n < 32) (s : Int32) (i : Nat) : bt (s &&& (((1 : Int32) <<< (nI n &&& 31)) ^^^ (-1 : Int32))) i = (bt s i && !decide (i = n)) := by
  rcases Nat.lt_or_ge i 32 with h | h
  · rw [b_and, b_not _ h, b_bit hn]
  · rw [b_big h, b_big h]; rfl
theorem b_wos (s t : Int32) (i : Nat) : bt (s &&& (t ^^^ (-1 : Int32))) i = (bt s i && !bt t i) := by
  rcases Nat.lt_or_ge i 32 with h | h
  · rw [b_and, b_not _ h]
  · rw [b_big h, b_big h]; rfl
theorem b_has {n : Nat} (hn : n < 32) (s : Int32) : ((s >>> (nI n &&& 31)) &&& (1 : Int32)) = 0 ↔ bt s n = false := by
  constructor
  · intro h
    have h2 : bt ((s >>> (nI n &&& 31)) &&& (1 : Int32)) 0 = false := by rw [h]; exact b_0 0
    rw [b_and, b_sshr n hn s (by decide), b_1] at h2
    simpa [hn] using h2
  · intro h
    refine b_ext fun i hi => ?_
    rw [b_and, b_1, b_0]
    by_cases e : i = 0
    · subst e; rw [b_sshr n hn s (by decide)]; simp [hn, h]
    · simp [e]
theorem b_has1 {n : Nat} (hn : n < 32) (s : Int32) : ((s >>> (nI n &&& 31)) &&& (1 : Int32)) = 1 ↔ bt s n = true := by
  constructor
  · intro h
    have h2 : bt ((s >>> (nI n &&& 31)) &&& (1 : Int32)) 0 = true := by rw [h]; exact (by decide +kernel)
    rw [b_and, b_sshr n hn s (by decide), b_1] at h2
    simpa [hn] using h2
  · intro h
    refine b_ext fun i hi => ?_
    rw [b_and, b_1]
    by_cases e : i = 0
    · subst e; rw [b_sshr n hn s (by decide)]; simp [hn, h]
    · simp [e]
theorem h10 {n : Nat} (hn : n < 32) (s : Int32) : f_X10_has s (nI n) = if bt s n = true then 1 else 0 := by
  unfold f_X10_has
  by_cases h : bt s n = true
  · rw [if_pos h, if_neg (fun z => by rw [(b_has hn s).mp z] at h; cases h)]
  · rw [if_neg h, if_pos ((b_has hn s).mpr (by simpa using h))]
theorem h11 {n : Nat} (hn : n < 32) (s : Int32) : f_X11_has s (nI n) = if bt s n = true then 1 else 0 := by
  unfold f_X11_has
  by_cases h : bt s n = true
  · rw [if_pos h, if_pos ((b_has1 hn s).mpr h)]
  · rw [if_neg h, if_neg (fun z => h ((b_has1 hn s).mp z))]
theorem h10t {n : Nat} {s : Int32} (hn : n < 32) (h : bt s n = true) : ¬ f_X10_has s (nI n) = 0 := by rw [h10 hn, if_pos h]; decide
theorem h10f {n : Nat} {s : Int32} (hn : n < 32) (h : ¬ bt s n = true) : f_X10_has s (nI n) = 0 := by rw [h10 hn, if_neg h]
theorem h11t {n : Nat} {s : Int32} (hn : n < 32) (h : bt s n = true) : ¬ f_X11_has s (nI n) = 0 := by rw [h11 hn, if_pos h]; decide
theorem h11f {n : Nat} {s : Int32} (hn : n < 32) (h : ¬ bt s n = true) : f_X11_has s (nI n) = 0 := by rw [h11 hn, if_neg h]
theorem b_eq0 {s : Int32} (h : ∀ i, ¬ bt s i = true) : s = 0 := b_ext fun i _ => by rw [b_0]; simpa using h i
theorem b_ne0 {s : Int32} {i : Nat} (h : bt s i = true) : s ≠ 0 := fun e => by rw [e, b_0] at h; cases h
theorem b_ex {s : Int32} (h : s ≠ 0) : ∃ i, bt s i = true := Classical.byContradiction fun hc => h (b_eq0 fun i hi => hc ⟨i, hi⟩)
/-- sets of posts: eight bits -/
def b8 (s : Int32) : Prop := ∀ i, bt s i = true → i < 8
theorem b8_ext {s t : Int32} (hs : b8 s) (ht : b8 t) (h : ∀ i, i < 8 → (bt s i = true ↔ bt t i = true)) : s = t := by
  refine b_ext fun i _ => ?_
  by_cases hi : i < 8
  · exact Bool.eq_iff_iff.mpr (h i hi)
  · have h1 : bt s i = false := by simpa using fun z => hi (hs i z)
    have h2 : bt t i = false := by simpa using fun z => hi (ht i z)
    rw [h1, h2]
theorem b_eq_iff {s t : Int32} (h : ∀ i, bt s i = true ↔ bt t i = true) : s = t := b_ext fun i _ => Bool.eq_iff_iff.mpr (h i)
theorem b8_0 : b8 0 := fun i h => by rw [b_0] at h; cases h
theorem b8_bit {n : Nat} (hn : n < 8) : b8 ((1 : Int32) <<< (nI n &&& 31)) := fun i h => by
  rw [b_bit (by omega)] at h
  have := of_decide_eq_true h
  omega
theorem b8_andl {s t : Int32} (h : b8 s) : b8 (s &&& t) := fun i hi => h i (by rw [b_and] at hi; simp at hi; exact hi.1)
theorem b8_andr {s t : Int32} (h : b8 t) : b8 (s &&& t) := fun i hi => h i (by rw [b_and] at hi; simp at hi; exact hi.2)
theorem b8_or {s t : Int32} (h : b8 s) (h' : b8 t) : b8 (s ||| t) := fun i hi => by
  rw [b_or] at hi
  simp at hi
  exact hi.elim (h i) (h' i)
theorem b_nI {n i : Nat} (hi : i < 32) : bt (nI n) i = n.testBit i := by
  unfold bt nI
  show (BitVec.ofNat 32 n).getLsbD i = _
  rw [BitVec.getLsbD_ofNat]
  simp [hi]
theorem b8_num {s : Int32} (h : b8 s) : ∃ n, n < 256 ∧ s = nI n := by
  refine ⟨s.toBitVec.toNat, ?_, ?_⟩
  · refine Nat.lt_pow_two_of_testBit (n := 8) _ (fun i hi => ?_)
    have : ¬ bt s i = true := fun z => by have := h i z; omega
    show bt s i = false
    simpa using this
  · apply Int32.toBitVec_inj.mp
    show s.toBitVec = BitVec.ofNat 32 s.toBitVec.toNat
    exact (BitVec.ofNat_toNat _ _).symm ▸ (by simp)
theorem b8_nI {n : Nat} (hn : n < 256) : b8 (nI n) := fun i hi => by
  refine Classical.byContradiction fun hge => ?_
  by_cases h32 : i < 32
  · rw [b_nI h32, Nat.testBit_lt_two_pow (Nat.lt_of_lt_of_le hn (show 2 ^ 8 ≤ 2 ^ i from Nat.pow_le_pow_right (by decide) (by omega)))] at hi
    cases hi
  · rw [b_big (by omega)] at hi; cases hi
/-! counters -/
theorem k8f {j : Nat} (h : j < 8) : ¬ (8 : Int32) ≤ nI j := nI_ge h (by decide)
theorem k16f {j : Nat} (h : j < 16) : ¬ (16 : Int32) ≤ nI j := nI_ge h (by decide)
theorem k256f {j : Nat} (h : j < 256) : ¬ (256 : Int32) ≤ nI j := nI_ge h (by decide)
theorem in_ok {n N : Nat} (h : n < N) (hN : N < 2 ^ 31) : m_in (nI n) N = true := by
  unfold m_in
  rw [nI_clamp (by omega), decide_eq_true h, decide_eq_true (nI_pos (by omega))]
  rfl
theorem cl {n : Nat} (h : n < 100000) : (nI n).toNatClampNeg = n := nI_clamp (by omega)
/-! the two memories -/
theorem xs_at (x : mX) (q c : Nat) (v : Int32) (c' : Nat) : (m_xs x q c v).1 q c' = if c' = c then v else x.1 q c' := by
  unfold m_xs va_up
  simp
theorem xs_eq (x : mX) (q c : Nat) (v : Int32) : (m_xs x q c v).1 q c = v := by rw [xs_at, if_pos rfl]
theorem xs_ec {x : mX} {q c c' : Nat} {v : Int32} (h : c' ≠ c) : (m_xs x q c v).1 q c' = x.1 q c' := by rw [xs_at, if_neg h]
theorem xs_ne {x : mX} {q q' c : Nat} {v : Int32} (h : q' ≠ q) : (m_xs x q c v).1 q' = x.1 q' := by
  unfold m_xs va_up
  simp [h]
theorem xs_2 (x : mX) (q c : Nat) (v : Int32) : (m_xs x q c v).2 = x.2 := rfl
theorem ys_at (y : mY) (q c : Nat) (v : Int32) (c' : Nat) : (m_ys y q c v).1 q c' = if c' = c then v else y.1 q c' := by
  unfold m_ys va_up
  simp
theorem ys_eq (y : mY) (q c : Nat) (v : Int32) : (m_ys y q c v).1 q c = v := by rw [ys_at, if_pos rfl]
theorem ys_ec {y : mY} {q c c' : Nat} {v : Int32} (h : c' ≠ c) : (m_ys y q c v).1 q c' = y.1 q c' := by rw [ys_at, if_neg h]
theorem ys_ne {y : mY} {q q' c : Nat} {v : Int32} (h : q' ≠ q) : (m_ys y q c v).1 q' = y.1 q' := by
  unfold m_ys va_up
  simp [h]
theorem ys_2 (y : mY) (q c : Nat) (v : Int32) : (m_ys y q c v).2 = y.2 := rfl
theorem nar_b (v : Int32) (h : v = 0 ∨ v = 1) : vp_nar .boolean v = v := by
  rcases h with rfl | rfl <;> decide +kernel
/-! loops: counting up to N; with a measure -/
theorem lp_up {σ β : Type} (N : Nat) (F : Nat → Int32 → σ → Option β) (I : Nat → σ → Prop) (Q : Option β → Prop) (he : ∀ n s, I N s → Q (F (n + 1) (nI N) s)) (hs : ∀ n j s, j < N → I j s → (∀ s', I (j + 1) s' → Q (F n (nI (j + 1)) s')) → Q (F (n + 1) (nI j) s)) : ∀ n j s, N < j + n → j ≤ N → I j s → Q (F n (nI j) s) := by
  intro n
  induction n with
  | zero => intro j s h1 h2; omega
  | succ n ih =>
    intro j s h1 h2 hI
    by_cases e : j = N
    · subst e; exact he n s hI
    · exact hs n j s (by omega) hI (fun s' hI' => ih (j + 1) s' (by omega) (by omega) hI')
theorem lp_wh {σ β : Type} (F : Nat → σ → Option β) (μ : σ → Nat) (I : σ → Prop) (Q : Option β → Prop) (hs : ∀ n s, I s → (∀ s', I s' → μ s' < μ s → Q (F n s')) → Q (F (n + 1) s)) : ∀ n s, μ s < n → I s → Q (F n s) := by
  intro n
  induction n with
  | zero => intro s h1; omega
  | succ n ih => intro s h1 hI; exact hs n s hI (fun s' hI' h' => ih s' (by omega) hI')
/-- only cells lo .. hi of the row r differ -/
def xR (r lo hi : Nat) (x x' : mX) : Prop := (∀ q, q ≠ r → x'.1 q = x.1 q) ∧ x'.2 = x.2 ∧ ∀ c, c < lo ∨ hi ≤ c → x'.1 r c = x.1 r c
theorem xR_rf (r lo hi : Nat) (x : mX) : xR r lo hi x x := ⟨fun _ _ => rfl, rfl, fun _ _ => rfl⟩
theorem xR_set {r lo hi c : Nat} {x x' : mX} {v : Int32} (h : xR r lo hi x x') (h1 : lo ≤ c) (h2 : c < hi) : xR r lo hi x (m_xs x' r c v) :=
  ⟨fun q hq => by rw [xs_ne hq]; exact h.1 q hq, h.2.1, fun k hk => by rw [xs_ec (by omega)]; exact h.2.2 k hk⟩
theorem xR_tr {r lo hi : Nat} {x x' x'' : mX} (h : xR r lo hi x x') (h' : xR r lo hi x' x'') : xR r lo hi x x'' :=
  ⟨fun q hq => (h'.1 q hq).trans (h.1 q hq), h'.2.1.trans h.2.1, fun c hc => (h'.2.2 c hc).trans (h.2.2 c hc)⟩
/-- only rows of W differ -/
def xW (W : Nat → Prop) (x x' : mX) : Prop := (∀ q, ¬ W q → x'.1 q = x.1 q) ∧ x'.2 = x.2
def yW (W : Nat → Prop) (y y' : mY) : Prop := (∀ q, ¬ W q → y'.1 q = y.1 q) ∧ y'.2 = y.2
theorem xW_rf (W : Nat → Prop) (x : mX) : xW W x x := ⟨fun _ _ => rfl, rfl⟩
theorem yW_rf (W : Nat → Prop) (y : mY) : yW W y y := ⟨fun _ _ => rfl, rfl⟩
theorem xW_set {W : Nat → Prop} {q c : Nat} {x x' : mX} {v : Int32} (h : xW W x x') (hq : W q) : xW W x (m_xs x' q c v) :=
  ⟨fun k hk => (xs_ne (fun e : k = q => hk (e.symm ▸ hq))).trans (h.1 k hk), h.2⟩
theorem yW_set {W : Nat → Prop} {q c : Nat} {y y' : mY} {v : Int32} (h : yW W y y') (hq : W q) : yW W y (m_ys y' q c v) :=
  ⟨fun k hk => (ys_ne (fun e : k = q => hk (e.symm ▸ hq))).trans (h.1 k hk), h.2⟩
theorem xW_tr {W : Nat → Prop} {x x' x'' : mX} (h : xW W x x') (h' : xW W x' x'') : xW W x x'' := ⟨fun q hq => (h'.1 q hq).trans (h.1 q hq), h'.2.trans h.2⟩
theorem yW_tr {W : Nat → Prop} {y y' y'' : mY} (h : yW W y y') (h' : yW W y' y'') : yW W y y'' := ⟨fun q hq => (h'.1 q hq).trans (h.1 q hq), h'.2.trans h.2⟩
theorem xW_mo {W U : Nat → Prop} {x x' : mX} (h : xW W x x') (hm : ∀ q, W q → U q) : xW U x x' := ⟨fun q hq => h.1 q (fun z => hq (hm q z)), h.2⟩
theorem yW_mo {W U : Nat → Prop} {y y' : mY} (h : yW W y y') (hm : ∀ q, W q → U q) : yW U y y' := ⟨fun q hq => h.1 q (fun z => hq (hm q z)), h.2⟩
theorem xW_R {r lo hi : Nat} {W : Nat → Prop} {x x' : mX} (h : xR r lo hi x x') (hr : W r) : xW W x x' := ⟨fun q hq => h.1 q (fun e => hq (e ▸ hr)), h.2.1⟩
theorem lp_ok {σ β : Type} (N : Nat) (F : Nat → Int32 → σ → Option β) (I : Nat → σ → Prop) {P : β → Prop} (he : ∀ n s, I N s → ∃ r, F (n + 1) (nI N) s = some r ∧ P r) (hs : ∀ n j s, j < N → I j s → (∀ s', I (j + 1) s' → ∃ r, F n (nI (j + 1)) s' = some r ∧ P r) → ∃ r, F (n + 1) (nI j) s = some r ∧ P r) (n j : Nat) (s : σ) (h1 : N < j + n) (h2 : j ≤ N) (hI : I j s) : ∃ r, F n (nI j) s = some r ∧ P r :=
  lp_up N F I (fun o => ∃ r, o = some r ∧ P r) he hs n j s h1 h2 hI
theorem lp_wo {σ β : Type} (F : Nat → σ → Option β) (μ : σ → Nat) (I : σ → Prop) {P : β → Prop} (hs : ∀ n s, I s → (∀ s', I s' → μ s' < μ s → ∃ r, F n s' = some r ∧ P r) → ∃ r, F (n + 1) s = some r ∧ P r) (n : Nat) (s : σ) (h1 : μ s < n) (hI : I s) : ∃ r, F n s = some r ∧ P r :=
  lp_wh F μ I (fun o => ∃ r, o = some r ∧ P r) hs n s h1 hI
