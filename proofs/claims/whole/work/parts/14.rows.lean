/-! ===== rows of the functions' proofs: branches, rows of memory, calls' ends ===== -/
theorem m_shB {q : Nat} {s : Nat × Nat} (hq : mSH[q]? = some s) : q < mBIG := Nat.lt_of_lt_of_le (List.getElem?_eq_some_iff.mp hq).1 (show mSH.length ≤ mBIG by decide +kernel)
def mLen (q : Nat) : Nat := (mSH.getD q (0, 0)).2
section MB
variable {fm : Value} {L : Nat} {xs : Nat → Int32} {α : Type} {g : α → Value × mM} {pg : List (Nat × mO)} {pc a d : Nat} {v : Value} {ts : List Nat} {ls st : List Value} {mem : mM}
theorem mS_bind {β : Type} {o : Option β} {f : β → Option α} (h : ∀ q, o = some q → mS fm L xs g pg pc ls st mem (f q)) : mS fm L xs g pg pc ls st mem (o.bind f) := by
  cases o with
  | none => exact mS_none
  | some q => exact h q rfl
theorem mS_letx {e : mX} {y : mY} {f : mX → Option α} (h : ∀ z, mS fm L xs g pg pc ls st (mk z y) (f z)) : mS fm L xs g pg pc ls st (mk e y) (m_let e f) := h e
theorem mS_letxT {e : mX} {y : mY} {f : mX → α} (h : ∀ z, mS fm L xs g pg pc ls st (mk z y) (some (f z))) : mS fm L xs g pg pc ls st (mk e y) (some (m_let e f)) := h e
theorem mS_lety {e : mY} {x : mX} {f : mY → Option α} (h : ∀ z, mS fm L xs g pg pc ls st (mk x z) (f z)) : mS fm L xs g pg pc ls st (mk x e) (m_let e f) := h e
theorem mS_letyT {e : mY} {x : mX} {f : mY → α} (h : ∀ z, mS fm L xs g pg pc ls st (mk x z) (some (f z))) : mS fm L xs g pg pc ls st (mk x e) (some (m_let e f)) := h e
theorem mS_if0 {x : Int32} {A B : Option α} (hl : pg.lookup pc = some (20, a, 0, d, v, ts)) (kt : x = 0 → mS fm L xs g pg (d) ls st mem A) (kf : ¬ (x = 0) → mS fm L xs g pg (pc + 3) ls st mem B) : mS fm L xs g pg pc ls (.int x :: st) mem ((if x = 0 then A else B)) :=
  mS_ite (fun hc => mS_one hl (by decide) (by show some (bif decide (x = 0) then d else pc + 3, ls, st, mem) = _; rw [decide_eq_true hc]; rfl) (kt hc)) (fun hc => mS_one hl (by decide) (by show some (bif decide (x = 0) then d else pc + 3, ls, st, mem) = _; rw [decide_eq_false hc]; rfl) (kf hc))
theorem mS_ic0 {x y : Int32} {A B : Option α} (hl : pg.lookup pc = some (21, a, 0, d, v, ts)) (kt : x = y → mS fm L xs g pg (d) ls st mem A) (kf : ¬ (x = y) → mS fm L xs g pg (pc + 3) ls st mem B) : mS fm L xs g pg pc ls (.int y :: .int x :: st) mem ((if x = y then A else B)) :=
  mS_ite (fun hc => mS_one hl (by decide) (by show some (bif decide (x = y) then d else pc + 3, ls, st, mem) = _; rw [decide_eq_true hc]; rfl) (kt hc)) (fun hc => mS_one hl (by decide) (by show some (bif decide (x = y) then d else pc + 3, ls, st, mem) = _; rw [decide_eq_false hc]; rfl) (kf hc))
theorem mS_if1 {x : Int32} {A B : Option α} (hl : pg.lookup pc = some (20, a, 1, d, v, ts)) (kt : x = 0 → mS fm L xs g pg (pc + 3) ls st mem A) (kf : ¬ (x = 0) → mS fm L xs g pg (d) ls st mem B) : mS fm L xs g pg pc ls (.int x :: st) mem ((if x = 0 then A else B)) :=
  mS_ite (fun hc => mS_one hl (by decide) (by show some (bif decide (¬ x = 0) then d else pc + 3, ls, st, mem) = _; rw [decide_eq_false (fun z => z hc)]; rfl) (kt hc)) (fun hc => mS_one hl (by decide) (by show some (bif decide (¬ x = 0) then d else pc + 3, ls, st, mem) = _; rw [decide_eq_true hc]; rfl) (kf hc))
theorem mS_ic1 {x y : Int32} {A B : Option α} (hl : pg.lookup pc = some (21, a, 1, d, v, ts)) (kt : x = y → mS fm L xs g pg (pc + 3) ls st mem A) (kf : ¬ (x = y) → mS fm L xs g pg (d) ls st mem B) : mS fm L xs g pg pc ls (.int y :: .int x :: st) mem ((if x = y then A else B)) :=
  mS_ite (fun hc => mS_one hl (by decide) (by show some (bif decide (¬ x = y) then d else pc + 3, ls, st, mem) = _; rw [decide_eq_false (fun z => z hc)]; rfl) (kt hc)) (fun hc => mS_one hl (by decide) (by show some (bif decide (¬ x = y) then d else pc + 3, ls, st, mem) = _; rw [decide_eq_true hc]; rfl) (kf hc))
theorem mS_if2 {x : Int32} {A B : Option α} (hl : pg.lookup pc = some (20, a, 2, d, v, ts)) (kt : x < 0 → mS fm L xs g pg (d) ls st mem A) (kf : ¬ (x < 0) → mS fm L xs g pg (pc + 3) ls st mem B) : mS fm L xs g pg pc ls (.int x :: st) mem ((if x < 0 then A else B)) :=
  mS_ite (fun hc => mS_one hl (by decide) (by show some (bif decide (x < 0) then d else pc + 3, ls, st, mem) = _; rw [decide_eq_true hc]; rfl) (kt hc)) (fun hc => mS_one hl (by decide) (by show some (bif decide (x < 0) then d else pc + 3, ls, st, mem) = _; rw [decide_eq_false hc]; rfl) (kf hc))
theorem mS_ic2 {x y : Int32} {A B : Option α} (hl : pg.lookup pc = some (21, a, 2, d, v, ts)) (kt : x < y → mS fm L xs g pg (d) ls st mem A) (kf : ¬ (x < y) → mS fm L xs g pg (pc + 3) ls st mem B) : mS fm L xs g pg pc ls (.int y :: .int x :: st) mem ((if x < y then A else B)) :=
  mS_ite (fun hc => mS_one hl (by decide) (by show some (bif decide (x < y) then d else pc + 3, ls, st, mem) = _; rw [decide_eq_true hc]; rfl) (kt hc)) (fun hc => mS_one hl (by decide) (by show some (bif decide (x < y) then d else pc + 3, ls, st, mem) = _; rw [decide_eq_false hc]; rfl) (kf hc))
theorem mS_if3 {x : Int32} {A B : Option α} (hl : pg.lookup pc = some (20, a, 3, d, v, ts)) (kt : 0 ≤ x → mS fm L xs g pg (d) ls st mem A) (kf : ¬ (0 ≤ x) → mS fm L xs g pg (pc + 3) ls st mem B) : mS fm L xs g pg pc ls (.int x :: st) mem ((if 0 ≤ x then A else B)) :=
  mS_ite (fun hc => mS_one hl (by decide) (by show some (bif decide (0 ≤ x) then d else pc + 3, ls, st, mem) = _; rw [decide_eq_true hc]; rfl) (kt hc)) (fun hc => mS_one hl (by decide) (by show some (bif decide (0 ≤ x) then d else pc + 3, ls, st, mem) = _; rw [decide_eq_false hc]; rfl) (kf hc))
theorem mS_ic3 {x y : Int32} {A B : Option α} (hl : pg.lookup pc = some (21, a, 3, d, v, ts)) (kt : y ≤ x → mS fm L xs g pg (d) ls st mem A) (kf : ¬ (y ≤ x) → mS fm L xs g pg (pc + 3) ls st mem B) : mS fm L xs g pg pc ls (.int y :: .int x :: st) mem ((if y ≤ x then A else B)) :=
  mS_ite (fun hc => mS_one hl (by decide) (by show some (bif decide (y ≤ x) then d else pc + 3, ls, st, mem) = _; rw [decide_eq_true hc]; rfl) (kt hc)) (fun hc => mS_one hl (by decide) (by show some (bif decide (y ≤ x) then d else pc + 3, ls, st, mem) = _; rw [decide_eq_false hc]; rfl) (kf hc))
theorem mS_if4 {x : Int32} {A B : Option α} (hl : pg.lookup pc = some (20, a, 4, d, v, ts)) (kt : 0 < x → mS fm L xs g pg (d) ls st mem A) (kf : ¬ (0 < x) → mS fm L xs g pg (pc + 3) ls st mem B) : mS fm L xs g pg pc ls (.int x :: st) mem ((if 0 < x then A else B)) :=
  mS_ite (fun hc => mS_one hl (by decide) (by show some (bif decide (0 < x) then d else pc + 3, ls, st, mem) = _; rw [decide_eq_true hc]; rfl) (kt hc)) (fun hc => mS_one hl (by decide) (by show some (bif decide (0 < x) then d else pc + 3, ls, st, mem) = _; rw [decide_eq_false hc]; rfl) (kf hc))
theorem mS_ic4 {x y : Int32} {A B : Option α} (hl : pg.lookup pc = some (21, a, 4, d, v, ts)) (kt : y < x → mS fm L xs g pg (d) ls st mem A) (kf : ¬ (y < x) → mS fm L xs g pg (pc + 3) ls st mem B) : mS fm L xs g pg pc ls (.int y :: .int x :: st) mem ((if y < x then A else B)) :=
  mS_ite (fun hc => mS_one hl (by decide) (by show some (bif decide (y < x) then d else pc + 3, ls, st, mem) = _; rw [decide_eq_true hc]; rfl) (kt hc)) (fun hc => mS_one hl (by decide) (by show some (bif decide (y < x) then d else pc + 3, ls, st, mem) = _; rw [decide_eq_false hc]; rfl) (kf hc))
theorem mS_if5 {x : Int32} {A B : Option α} (hl : pg.lookup pc = some (20, a, 5, d, v, ts)) (kt : x ≤ 0 → mS fm L xs g pg (d) ls st mem A) (kf : ¬ (x ≤ 0) → mS fm L xs g pg (pc + 3) ls st mem B) : mS fm L xs g pg pc ls (.int x :: st) mem ((if x ≤ 0 then A else B)) :=
  mS_ite (fun hc => mS_one hl (by decide) (by show some (bif decide (x ≤ 0) then d else pc + 3, ls, st, mem) = _; rw [decide_eq_true hc]; rfl) (kt hc)) (fun hc => mS_one hl (by decide) (by show some (bif decide (x ≤ 0) then d else pc + 3, ls, st, mem) = _; rw [decide_eq_false hc]; rfl) (kf hc))
theorem mS_ic5 {x y : Int32} {A B : Option α} (hl : pg.lookup pc = some (21, a, 5, d, v, ts)) (kt : x ≤ y → mS fm L xs g pg (d) ls st mem A) (kf : ¬ (x ≤ y) → mS fm L xs g pg (pc + 3) ls st mem B) : mS fm L xs g pg pc ls (.int y :: .int x :: st) mem ((if x ≤ y then A else B)) :=
  mS_ite (fun hc => mS_one hl (by decide) (by show some (bif decide (x ≤ y) then d else pc + 3, ls, st, mem) = _; rw [decide_eq_true hc]; rfl) (kt hc)) (fun hc => mS_one hl (by decide) (by show some (bif decide (x ≤ y) then d else pc + 3, ls, st, mem) = _; rw [decide_eq_false hc]; rfl) (kf hc))
theorem mS_if0T {x : Int32} {A B : α} (hl : pg.lookup pc = some (20, a, 0, d, v, ts)) (kt : x = 0 → mS fm L xs g pg (d) ls st mem (some A)) (kf : ¬ (x = 0) → mS fm L xs g pg (pc + 3) ls st mem (some B)) : mS fm L xs g pg pc ls (.int x :: st) mem (some (if x = 0 then A else B)) :=
  mS_iteT (fun hc => mS_one hl (by decide) (by show some (bif decide (x = 0) then d else pc + 3, ls, st, mem) = _; rw [decide_eq_true hc]; rfl) (kt hc)) (fun hc => mS_one hl (by decide) (by show some (bif decide (x = 0) then d else pc + 3, ls, st, mem) = _; rw [decide_eq_false hc]; rfl) (kf hc))
theorem mS_ic0T {x y : Int32} {A B : α} (hl : pg.lookup pc = some (21, a, 0, d, v, ts)) (kt : x = y → mS fm L xs g pg (d) ls st mem (some A)) (kf : ¬ (x = y) → mS fm L xs g pg (pc + 3) ls st mem (some B)) : mS fm L xs g pg pc ls (.int y :: .int x :: st) mem (some (if x = y then A else B)) :=
  mS_iteT (fun hc => mS_one hl (by decide) (by show some (bif decide (x = y) then d else pc + 3, ls, st, mem) = _; rw [decide_eq_true hc]; rfl) (kt hc)) (fun hc => mS_one hl (by decide) (by show some (bif decide (x = y) then d else pc + 3, ls, st, mem) = _; rw [decide_eq_false hc]; rfl) (kf hc))
theorem mS_if1T {x : Int32} {A B : α} (hl : pg.lookup pc = some (20, a, 1, d, v, ts)) (kt : x = 0 → mS fm L xs g pg (pc + 3) ls st mem (some A)) (kf : ¬ (x = 0) → mS fm L xs g pg (d) ls st mem (some B)) : mS fm L xs g pg pc ls (.int x :: st) mem (some (if x = 0 then A else B)) :=
  mS_iteT (fun hc => mS_one hl (by decide) (by show some (bif decide (¬ x = 0) then d else pc + 3, ls, st, mem) = _; rw [decide_eq_false (fun z => z hc)]; rfl) (kt hc)) (fun hc => mS_one hl (by decide) (by show some (bif decide (¬ x = 0) then d else pc + 3, ls, st, mem) = _; rw [decide_eq_true hc]; rfl) (kf hc))
theorem mS_ic1T {x y : Int32} {A B : α} (hl : pg.lookup pc = some (21, a, 1, d, v, ts)) (kt : x = y → mS fm L xs g pg (pc + 3) ls st mem (some A)) (kf : ¬ (x = y) → mS fm L xs g pg (d) ls st mem (some B)) : mS fm L xs g pg pc ls (.int y :: .int x :: st) mem (some (if x = y then A else B)) :=
  mS_iteT (fun hc => mS_one hl (by decide) (by show some (bif decide (¬ x = y) then d else pc + 3, ls, st, mem) = _; rw [decide_eq_false (fun z => z hc)]; rfl) (kt hc)) (fun hc => mS_one hl (by decide) (by show some (bif decide (¬ x = y) then d else pc + 3, ls, st, mem) = _; rw [decide_eq_true hc]; rfl) (kf hc))
theorem mS_if2T {x : Int32} {A B : α} (hl : pg.lookup pc = some (20, a, 2, d, v, ts)) (kt : x < 0 → mS fm L xs g pg (d) ls st mem (some A)) (kf : ¬ (x < 0) → mS fm L xs g pg (pc + 3) ls st mem (some B)) : mS fm L xs g pg pc ls (.int x :: st) mem (some (if x < 0 then A else B)) :=
  mS_iteT (fun hc => mS_one hl (by decide) (by show some (bif decide (x < 0) then d else pc + 3, ls, st, mem) = _; rw [decide_eq_true hc]; rfl) (kt hc)) (fun hc => mS_one hl (by decide) (by show some (bif decide (x < 0) then d else pc + 3, ls, st, mem) = _; rw [decide_eq_false hc]; rfl) (kf hc))
theorem mS_ic2T {x y : Int32} {A B : α} (hl : pg.lookup pc = some (21, a, 2, d, v, ts)) (kt : x < y → mS fm L xs g pg (d) ls st mem (some A)) (kf : ¬ (x < y) → mS fm L xs g pg (pc + 3) ls st mem (some B)) : mS fm L xs g pg pc ls (.int y :: .int x :: st) mem (some (if x < y then A else B)) :=
  mS_iteT (fun hc => mS_one hl (by decide) (by show some (bif decide (x < y) then d else pc + 3, ls, st, mem) = _; rw [decide_eq_true hc]; rfl) (kt hc)) (fun hc => mS_one hl (by decide) (by show some (bif decide (x < y) then d else pc + 3, ls, st, mem) = _; rw [decide_eq_false hc]; rfl) (kf hc))
theorem mS_if3T {x : Int32} {A B : α} (hl : pg.lookup pc = some (20, a, 3, d, v, ts)) (kt : 0 ≤ x → mS fm L xs g pg (d) ls st mem (some A)) (kf : ¬ (0 ≤ x) → mS fm L xs g pg (pc + 3) ls st mem (some B)) : mS fm L xs g pg pc ls (.int x :: st) mem (some (if 0 ≤ x then A else B)) :=
  mS_iteT (fun hc => mS_one hl (by decide) (by show some (bif decide (0 ≤ x) then d else pc + 3, ls, st, mem) = _; rw [decide_eq_true hc]; rfl) (kt hc)) (fun hc => mS_one hl (by decide) (by show some (bif decide (0 ≤ x) then d else pc + 3, ls, st, mem) = _; rw [decide_eq_false hc]; rfl) (kf hc))
theorem mS_ic3T {x y : Int32} {A B : α} (hl : pg.lookup pc = some (21, a, 3, d, v, ts)) (kt : y ≤ x → mS fm L xs g pg (d) ls st mem (some A)) (kf : ¬ (y ≤ x) → mS fm L xs g pg (pc + 3) ls st mem (some B)) : mS fm L xs g pg pc ls (.int y :: .int x :: st) mem (some (if y ≤ x then A else B)) :=
  mS_iteT (fun hc => mS_one hl (by decide) (by show some (bif decide (y ≤ x) then d else pc + 3, ls, st, mem) = _; rw [decide_eq_true hc]; rfl) (kt hc)) (fun hc => mS_one hl (by decide) (by show some (bif decide (y ≤ x) then d else pc + 3, ls, st, mem) = _; rw [decide_eq_false hc]; rfl) (kf hc))
theorem mS_if4T {x : Int32} {A B : α} (hl : pg.lookup pc = some (20, a, 4, d, v, ts)) (kt : 0 < x → mS fm L xs g pg (d) ls st mem (some A)) (kf : ¬ (0 < x) → mS fm L xs g pg (pc + 3) ls st mem (some B)) : mS fm L xs g pg pc ls (.int x :: st) mem (some (if 0 < x then A else B)) :=
  mS_iteT (fun hc => mS_one hl (by decide) (by show some (bif decide (0 < x) then d else pc + 3, ls, st, mem) = _; rw [decide_eq_true hc]; rfl) (kt hc)) (fun hc => mS_one hl (by decide) (by show some (bif decide (0 < x) then d else pc + 3, ls, st, mem) = _; rw [decide_eq_false hc]; rfl) (kf hc))
theorem mS_ic4T {x y : Int32} {A B : α} (hl : pg.lookup pc = some (21, a, 4, d, v, ts)) (kt : y < x → mS fm L xs g pg (d) ls st mem (some A)) (kf : ¬ (y < x) → mS fm L xs g pg (pc + 3) ls st mem (some B)) : mS fm L xs g pg pc ls (.int y :: .int x :: st) mem (some (if y < x then A else B)) :=
  mS_iteT (fun hc => mS_one hl (by decide) (by show some (bif decide (y < x) then d else pc + 3, ls, st, mem) = _; rw [decide_eq_true hc]; rfl) (kt hc)) (fun hc => mS_one hl (by decide) (by show some (bif decide (y < x) then d else pc + 3, ls, st, mem) = _; rw [decide_eq_false hc]; rfl) (kf hc))
theorem mS_if5T {x : Int32} {A B : α} (hl : pg.lookup pc = some (20, a, 5, d, v, ts)) (kt : x ≤ 0 → mS fm L xs g pg (d) ls st mem (some A)) (kf : ¬ (x ≤ 0) → mS fm L xs g pg (pc + 3) ls st mem (some B)) : mS fm L xs g pg pc ls (.int x :: st) mem (some (if x ≤ 0 then A else B)) :=
  mS_iteT (fun hc => mS_one hl (by decide) (by show some (bif decide (x ≤ 0) then d else pc + 3, ls, st, mem) = _; rw [decide_eq_true hc]; rfl) (kt hc)) (fun hc => mS_one hl (by decide) (by show some (bif decide (x ≤ 0) then d else pc + 3, ls, st, mem) = _; rw [decide_eq_false hc]; rfl) (kf hc))
theorem mS_ic5T {x y : Int32} {A B : α} (hl : pg.lookup pc = some (21, a, 5, d, v, ts)) (kt : x ≤ y → mS fm L xs g pg (d) ls st mem (some A)) (kf : ¬ (x ≤ y) → mS fm L xs g pg (pc + 3) ls st mem (some B)) : mS fm L xs g pg pc ls (.int y :: .int x :: st) mem (some (if x ≤ y then A else B)) :=
  mS_iteT (fun hc => mS_one hl (by decide) (by show some (bif decide (x ≤ y) then d else pc + 3, ls, st, mem) = _; rw [decide_eq_true hc]; rfl) (kt hc)) (fun hc => mS_one hl (by decide) (by show some (bif decide (x ≤ y) then d else pc + 3, ls, st, mem) = _; rw [decide_eq_false hc]; rfl) (kf hc))
theorem m_ald_step {b q n : Nat} {i : Int32} (hb : b ≠ 1 ∧ b ≠ 4) (hq : mem.1[q]? = some (100 + b, n)) (hB : q < mBIG) (hi : m_in i n = true) : m_step fm L xs 14 a b d v ts pc ls (.int i :: .ref q :: st) mem = some (pc + 1, ls, .int (mem.2.1 q i.toNatClampNeg) :: st, mem) := by
  simp only [m_step]
  rw [hq]
  dsimp only
  rw [if_pos ⟨rfl, hB, hi⟩]
  split
  · exact absurd rfl hb.1
  · exact absurd rfl hb.2
  · rfl
theorem m_lald_step {q n : Nat} {i : Int32} (hq : mem.1[q]? = some (100 + 1, n)) (hB : q < mBIG) (hi : m_in i n = true) : m_step fm L xs 14 a 1 d v ts pc ls (.int i :: .ref q :: st) mem = some (pc + 1, ls, .long (mem.2.2.1 q i.toNatClampNeg) :: st, mem) := by
  simp only [m_step]
  rw [hq]
  dsimp only
  rw [if_pos ⟨rfl, hB, hi⟩]
theorem mS_ald {b q n : Nat} {i z : Int32} {A : Option α} (hl : pg.lookup pc = some (14, a, b, d, v, ts)) (hb : b ≠ 1 ∧ b ≠ 4) (hq : mem.1[q]? = some (100 + b, n)) (hB : q < mBIG) (hz : mem.2.1 q i.toNatClampNeg = z) (k : m_in i n = true → mS fm L xs g pg (pc + 1) ls (.int z :: st) mem A) : mS fm L xs g pg pc ls (.int i :: .ref q :: st) mem (if m_in i n = true then A else none) :=
  mS_guard fun hi => mS_one hl (by decide) (m_ald_step hb hq hB hi) (by rw [hz]; exact k hi)
theorem mS_aldc {b q n c : Nat} {i z : Int32} {A : Option α} (hl : pg.lookup pc = some (14, a, b, d, v, ts)) (hb : b ≠ 1 ∧ b ≠ 4) (hq : mem.1[q]? = some (100 + b, n)) (hB : q < mBIG) (hi : m_in i n = true) (hc : i.toNatClampNeg = c) (hz : mem.2.1 q c = z) (k : mS fm L xs g pg (pc + 1) ls (.int z :: st) mem A) : mS fm L xs g pg pc ls (.int i :: .ref q :: st) mem A :=
  mS_one hl (by decide) (m_ald_step hb hq hB hi) (by rw [hc, hz]; exact k)
theorem mS_lald {b q n : Nat} {i : Int32} {z : Int64} {A : Option α} (hl : pg.lookup pc = some (14, a, 1, d, v, ts)) (hq : mem.1[q]? = some (100 + 1, n)) (hB : q < mBIG) (hz : mem.2.2.1 q i.toNatClampNeg = z) (k : m_in i n = true → mS fm L xs g pg (pc + 1) ls (.long z :: st) mem A) : mS fm L xs g pg pc ls (.int i :: .ref q :: st) mem (if m_in i n = true then A else none) :=
  mS_guard fun hi => mS_one hl (by decide) (m_lald_step hq hB hi) (by rw [hz]; exact k hi)
theorem mS_laldc {b q n c : Nat} {i : Int32} {z : Int64} {A : Option α} (hl : pg.lookup pc = some (14, a, 1, d, v, ts)) (hq : mem.1[q]? = some (100 + 1, n)) (hB : q < mBIG) (hi : m_in i n = true) (hc : i.toNatClampNeg = c) (hz : mem.2.2.1 q c = z) (k : mS fm L xs g pg (pc + 1) ls (.long z :: st) mem A) : mS fm L xs g pg pc ls (.int i :: .ref q :: st) mem A :=
  mS_one hl (by decide) (m_lald_step hq hB hi) (by rw [hc, hz]; exact k)
theorem mS_aald {q n : Nat} {i : Int32} {A : Option α} (hl : pg.lookup pc = some (14, a, 4, d, v, ts)) (hq : mem.1[q]? = some (100 + 4, n)) (hB : q < mBIG) (k : m_in i n = true → mS fm L xs g pg pc ls (.int i :: .ref q :: st) mem A) : mS fm L xs g pg pc ls (.int i :: .ref q :: st) mem (if m_in i n = true then A else none) := mS_guard k
theorem mS_aald2 {q n p : Nat} {i : Int32} {A : Option α} (hl : pg.lookup pc = some (14, a, 4, d, v, ts)) (hq : mem.1[q]? = some (100 + 4, n)) (hB : q < mBIG) (hi : m_in i n = true) (hp : mem.2.2.2 q i.toNatClampNeg = some p) (k : mS fm L xs g pg (pc + 1) ls (.ref p :: st) mem A) : mS fm L xs g pg pc ls (.int i :: .ref q :: st) mem A :=
  mS_one hl (by decide) (by
    simp only [m_step]
    rw [hq]
    dsimp only
    rw [if_pos ⟨rfl, hB, hi⟩, hp]) k
theorem m_ast0x_step {x : mX} {y : mY} {q n : Nat} {i z : Int32} (hq : mSH[q]? = some (100 + 0, n)) (hx : q < 279) (hi : m_in i n = true) : m_step fm L xs 15 a 0 d v ts pc ls (.int z :: .int i :: .ref q :: st) (mk x y) = some (pc + 1, ls, st, mk (m_xs x q i.toNatClampNeg z) y) := by
  have hB : q < mBIG := m_shB hq
  have hq : (mk x y).1[q]? = some (100 + 0, n) := hq
  simp only [m_step]
  rw [hq]
  dsimp only
  rw [if_pos ⟨rfl, hB, hi⟩, mk_xs x y _ _ hx]
theorem mS_ast0x {x : mX} {y : mY} {q n : Nat} {i z : Int32} {A : Option α} (hl : pg.lookup pc = some (15, a, 0, d, v, ts)) (hq : mSH[q]? = some (100 + 0, n)) (hx : q < 279) (k : m_in i n = true → mS fm L xs g pg (pc + 1) ls st (mk (m_xs x q i.toNatClampNeg z) y) A) : mS fm L xs g pg pc ls (.int z :: .int i :: .ref q :: st) (mk x y) (if m_in i n = true then A else none) :=
  mS_guard fun hi => mS_one hl (by decide) (m_ast0x_step hq hx hi) (k hi)
theorem mS_ast0xc {x : mX} {y : mY} {q n c : Nat} {i z : Int32} {A : Option α} (hl : pg.lookup pc = some (15, a, 0, d, v, ts)) (hq : mSH[q]? = some (100 + 0, n)) (hx : q < 279) (hi : m_in i n = true) (hc : i.toNatClampNeg = c) (k : mS fm L xs g pg (pc + 1) ls st (mk (m_xs x q c z) y) A) : mS fm L xs g pg pc ls (.int z :: .int i :: .ref q :: st) (mk x y) A :=
  mS_one hl (by decide) (m_ast0x_step hq hx hi) (by rw [hc]; exact k)
theorem m_ast2x_step {x : mX} {y : mY} {q n : Nat} {i z : Int32} (hq : mSH[q]? = some (100 + 2, n)) (hx : q < 279) (hi : m_in i n = true) : m_step fm L xs 15 a 2 d v ts pc ls (.int z :: .int i :: .ref q :: st) (mk x y) = some (pc + 1, ls, st, mk (m_xs x q i.toNatClampNeg (vp_nar .byte z)) y) := by
  have hB : q < mBIG := m_shB hq
  have hq : (mk x y).1[q]? = some (100 + 2, n) := hq
  simp only [m_step]
  rw [hq]
  dsimp only
  rw [if_pos ⟨rfl, hB, hi⟩, mk_xs x y _ _ hx]
theorem mS_ast2x {x : mX} {y : mY} {q n : Nat} {i z : Int32} {A : Option α} (hl : pg.lookup pc = some (15, a, 2, d, v, ts)) (hq : mSH[q]? = some (100 + 2, n)) (hx : q < 279) (k : m_in i n = true → mS fm L xs g pg (pc + 1) ls st (mk (m_xs x q i.toNatClampNeg (vp_nar .byte z)) y) A) : mS fm L xs g pg pc ls (.int z :: .int i :: .ref q :: st) (mk x y) (if m_in i n = true then A else none) :=
  mS_guard fun hi => mS_one hl (by decide) (m_ast2x_step hq hx hi) (k hi)
theorem mS_ast2xc {x : mX} {y : mY} {q n c : Nat} {i z : Int32} {A : Option α} (hl : pg.lookup pc = some (15, a, 2, d, v, ts)) (hq : mSH[q]? = some (100 + 2, n)) (hx : q < 279) (hi : m_in i n = true) (hc : i.toNatClampNeg = c) (k : mS fm L xs g pg (pc + 1) ls st (mk (m_xs x q c (vp_nar .byte z)) y) A) : mS fm L xs g pg pc ls (.int z :: .int i :: .ref q :: st) (mk x y) A :=
  mS_one hl (by decide) (m_ast2x_step hq hx hi) (by rw [hc]; exact k)
theorem m_ast3x_step {x : mX} {y : mY} {q n : Nat} {i z : Int32} (hq : mSH[q]? = some (100 + 3, n)) (hx : q < 279) (hi : m_in i n = true) : m_step fm L xs 15 a 3 d v ts pc ls (.int z :: .int i :: .ref q :: st) (mk x y) = some (pc + 1, ls, st, mk (m_xs x q i.toNatClampNeg (vp_nar .boolean z)) y) := by
  have hB : q < mBIG := m_shB hq
  have hq : (mk x y).1[q]? = some (100 + 3, n) := hq
  simp only [m_step]
  rw [hq]
  dsimp only
  rw [if_pos ⟨rfl, hB, hi⟩, mk_xs x y _ _ hx]
theorem mS_ast3x {x : mX} {y : mY} {q n : Nat} {i z : Int32} {A : Option α} (hl : pg.lookup pc = some (15, a, 3, d, v, ts)) (hq : mSH[q]? = some (100 + 3, n)) (hx : q < 279) (k : m_in i n = true → mS fm L xs g pg (pc + 1) ls st (mk (m_xs x q i.toNatClampNeg (vp_nar .boolean z)) y) A) : mS fm L xs g pg pc ls (.int z :: .int i :: .ref q :: st) (mk x y) (if m_in i n = true then A else none) :=
  mS_guard fun hi => mS_one hl (by decide) (m_ast3x_step hq hx hi) (k hi)
theorem mS_ast3xc {x : mX} {y : mY} {q n c : Nat} {i z : Int32} {A : Option α} (hl : pg.lookup pc = some (15, a, 3, d, v, ts)) (hq : mSH[q]? = some (100 + 3, n)) (hx : q < 279) (hi : m_in i n = true) (hc : i.toNatClampNeg = c) (k : mS fm L xs g pg (pc + 1) ls st (mk (m_xs x q c (vp_nar .boolean z)) y) A) : mS fm L xs g pg pc ls (.int z :: .int i :: .ref q :: st) (mk x y) A :=
  mS_one hl (by decide) (m_ast3x_step hq hx hi) (by rw [hc]; exact k)
theorem m_lstx_step {x : mX} {y : mY} {q n : Nat} {i : Int32} {z : Int64} (hq : mSH[q]? = some (100 + 1, n)) (hx : q < 279) (hi : m_in i n = true) : m_step fm L xs 15 a 1 d v ts pc ls (.long z :: .int i :: .ref q :: st) (mk x y) = some (pc + 1, ls, st, mk (m_xl x q i.toNatClampNeg z) y) := by
  have hB : q < mBIG := m_shB hq
  have hq : (mk x y).1[q]? = some (100 + 1, n) := hq
  simp only [m_step]
  rw [hq]
  dsimp only
  rw [if_pos ⟨rfl, hB, hi, trivial⟩, mk_xl x y _ _ hx]
theorem mS_lastorex {x : mX} {y : mY} {q n : Nat} {i : Int32} {z : Int64} {A : Option α} (hl : pg.lookup pc = some (15, a, 1, d, v, ts)) (hq : mSH[q]? = some (100 + 1, n)) (hx : q < 279) (k : m_in i n = true → mS fm L xs g pg (pc + 1) ls st (mk (m_xl x q i.toNatClampNeg z) y) A) : mS fm L xs g pg pc ls (.long z :: .int i :: .ref q :: st) (mk x y) (if m_in i n = true then A else none) :=
  mS_guard fun hi => mS_one hl (by decide) (m_lstx_step hq hx hi) (k hi)
theorem mS_lastorexc {x : mX} {y : mY} {q n c : Nat} {i : Int32} {z : Int64} {A : Option α} (hl : pg.lookup pc = some (15, a, 1, d, v, ts)) (hq : mSH[q]? = some (100 + 1, n)) (hx : q < 279) (hi : m_in i n = true) (hc : i.toNatClampNeg = c) (k : mS fm L xs g pg (pc + 1) ls st (mk (m_xl x q c z) y) A) : mS fm L xs g pg pc ls (.long z :: .int i :: .ref q :: st) (mk x y) A :=
  mS_one hl (by decide) (m_lstx_step hq hx hi) (by rw [hc]; exact k)
theorem m_putx_step {x : mX} {y : mY} {q n b c : Nat} {z : Int32} (hq : mSH[q]? = some (b, n)) (hx : q < 279) (hf : m_ft b c = 0 ∨ m_ft b c = 2 ∧ (z = 0 ∨ z = 1)) : m_step fm L xs 13 a b c v ts pc ls (.int z :: .ref q :: st) (mk x y) = some (pc + 3, ls, st, mk (m_xs x q c z) y) := by
  have hB : q < mBIG := m_shB hq
  have hq : (mk x y).1[q]? = some (b, n) := hq
  simp only [m_step]
  rw [hq]
  dsimp only
  rw [if_pos ⟨rfl, hB⟩, mk_xs x y _ _ hx]
  rcases hf with hf | ⟨hf, hz⟩
  · rw [hf]; rfl
  · rw [hf]; exact if_pos hz
theorem mS_putx {x : mX} {y : mY} {q n b c : Nat} {z : Int32} {A : Option α} (hl : pg.lookup pc = some (13, a, b, c, v, ts)) (hq : mSH[q]? = some (b, n)) (hx : q < 279) (hf : m_ft b c = 0) (k : mS fm L xs g pg (pc + 3) ls st (mk (m_xs x q c z) y) A) : mS fm L xs g pg pc ls (.int z :: .ref q :: st) (mk x y) A :=
  mS_one hl (by decide) (m_putx_step hq hx (Or.inl hf)) k
theorem mS_putcx {x : mX} {y : mY} {q n b c : Nat} {z : Int32} {A : Option α} (hl : pg.lookup pc = some (13, a, b, c, v, ts)) (hq : mSH[q]? = some (b, n)) (hx : q < 279) (hf : m_ft b c = 2) (hz : z = 0 ∨ z = 1) (k : mS fm L xs g pg (pc + 3) ls st (mk (m_xs x q c z) y) A) : mS fm L xs g pg pc ls (.int z :: .ref q :: st) (mk x y) A :=
  mS_one hl (by decide) (m_putx_step hq hx (Or.inr ⟨hf, hz⟩)) k
theorem mS_putbx {x : mX} {y : mY} {q n b c : Nat} {z : Int32} {A : Option α} (hl : pg.lookup pc = some (13, a, b, c, v, ts)) (hq : mSH[q]? = some (b, n)) (hx : q < 279) (hf : m_ft b c = 2) (k : (z = 0 ∨ z = 1) → mS fm L xs g pg (pc + 3) ls st (mk (m_xs x q c z) y) A) : mS fm L xs g pg pc ls (.int z :: .ref q :: st) (mk x y) (if z = 0 ∨ z = 1 then A else none) :=
  mS_guard fun hz => mS_one hl (by decide) (m_putx_step hq hx (Or.inr ⟨hf, hz⟩)) (k hz)
theorem m_ast0y_step {x : mX} {y : mY} {q n : Nat} {i z : Int32} (hq : mSH[q]? = some (100 + 0, n)) (hx : ¬ q < 279) (hi : m_in i n = true) : m_step fm L xs 15 a 0 d v ts pc ls (.int z :: .int i :: .ref q :: st) (mk x y) = some (pc + 1, ls, st, mk x (m_ys y q i.toNatClampNeg z)) := by
  have hB : q < mBIG := m_shB hq
  have hq : (mk x y).1[q]? = some (100 + 0, n) := hq
  simp only [m_step]
  rw [hq]
  dsimp only
  rw [if_pos ⟨rfl, hB, hi⟩, mk_ys x y _ _ hx]
theorem mS_ast0y {x : mX} {y : mY} {q n : Nat} {i z : Int32} {A : Option α} (hl : pg.lookup pc = some (15, a, 0, d, v, ts)) (hq : mSH[q]? = some (100 + 0, n)) (hx : ¬ q < 279) (k : m_in i n = true → mS fm L xs g pg (pc + 1) ls st (mk x (m_ys y q i.toNatClampNeg z)) A) : mS fm L xs g pg pc ls (.int z :: .int i :: .ref q :: st) (mk x y) (if m_in i n = true then A else none) :=
  mS_guard fun hi => mS_one hl (by decide) (m_ast0y_step hq hx hi) (k hi)
theorem mS_ast0yc {x : mX} {y : mY} {q n c : Nat} {i z : Int32} {A : Option α} (hl : pg.lookup pc = some (15, a, 0, d, v, ts)) (hq : mSH[q]? = some (100 + 0, n)) (hx : ¬ q < 279) (hi : m_in i n = true) (hc : i.toNatClampNeg = c) (k : mS fm L xs g pg (pc + 1) ls st (mk x (m_ys y q c z)) A) : mS fm L xs g pg pc ls (.int z :: .int i :: .ref q :: st) (mk x y) A :=
  mS_one hl (by decide) (m_ast0y_step hq hx hi) (by rw [hc]; exact k)
theorem m_ast2y_step {x : mX} {y : mY} {q n : Nat} {i z : Int32} (hq : mSH[q]? = some (100 + 2, n)) (hx : ¬ q < 279) (hi : m_in i n = true) : m_step fm L xs 15 a 2 d v ts pc ls (.int z :: .int i :: .ref q :: st) (mk x y) = some (pc + 1, ls, st, mk x (m_ys y q i.toNatClampNeg (vp_nar .byte z))) := by
  have hB : q < mBIG := m_shB hq
  have hq : (mk x y).1[q]? = some (100 + 2, n) := hq
  simp only [m_step]
  rw [hq]
  dsimp only
  rw [if_pos ⟨rfl, hB, hi⟩, mk_ys x y _ _ hx]
theorem mS_ast2y {x : mX} {y : mY} {q n : Nat} {i z : Int32} {A : Option α} (hl : pg.lookup pc = some (15, a, 2, d, v, ts)) (hq : mSH[q]? = some (100 + 2, n)) (hx : ¬ q < 279) (k : m_in i n = true → mS fm L xs g pg (pc + 1) ls st (mk x (m_ys y q i.toNatClampNeg (vp_nar .byte z))) A) : mS fm L xs g pg pc ls (.int z :: .int i :: .ref q :: st) (mk x y) (if m_in i n = true then A else none) :=
  mS_guard fun hi => mS_one hl (by decide) (m_ast2y_step hq hx hi) (k hi)
theorem mS_ast2yc {x : mX} {y : mY} {q n c : Nat} {i z : Int32} {A : Option α} (hl : pg.lookup pc = some (15, a, 2, d, v, ts)) (hq : mSH[q]? = some (100 + 2, n)) (hx : ¬ q < 279) (hi : m_in i n = true) (hc : i.toNatClampNeg = c) (k : mS fm L xs g pg (pc + 1) ls st (mk x (m_ys y q c (vp_nar .byte z))) A) : mS fm L xs g pg pc ls (.int z :: .int i :: .ref q :: st) (mk x y) A :=
  mS_one hl (by decide) (m_ast2y_step hq hx hi) (by rw [hc]; exact k)
theorem m_ast3y_step {x : mX} {y : mY} {q n : Nat} {i z : Int32} (hq : mSH[q]? = some (100 + 3, n)) (hx : ¬ q < 279) (hi : m_in i n = true) : m_step fm L xs 15 a 3 d v ts pc ls (.int z :: .int i :: .ref q :: st) (mk x y) = some (pc + 1, ls, st, mk x (m_ys y q i.toNatClampNeg (vp_nar .boolean z))) := by
  have hB : q < mBIG := m_shB hq
  have hq : (mk x y).1[q]? = some (100 + 3, n) := hq
  simp only [m_step]
  rw [hq]
  dsimp only
  rw [if_pos ⟨rfl, hB, hi⟩, mk_ys x y _ _ hx]
theorem mS_ast3y {x : mX} {y : mY} {q n : Nat} {i z : Int32} {A : Option α} (hl : pg.lookup pc = some (15, a, 3, d, v, ts)) (hq : mSH[q]? = some (100 + 3, n)) (hx : ¬ q < 279) (k : m_in i n = true → mS fm L xs g pg (pc + 1) ls st (mk x (m_ys y q i.toNatClampNeg (vp_nar .boolean z))) A) : mS fm L xs g pg pc ls (.int z :: .int i :: .ref q :: st) (mk x y) (if m_in i n = true then A else none) :=
  mS_guard fun hi => mS_one hl (by decide) (m_ast3y_step hq hx hi) (k hi)
theorem mS_ast3yc {x : mX} {y : mY} {q n c : Nat} {i z : Int32} {A : Option α} (hl : pg.lookup pc = some (15, a, 3, d, v, ts)) (hq : mSH[q]? = some (100 + 3, n)) (hx : ¬ q < 279) (hi : m_in i n = true) (hc : i.toNatClampNeg = c) (k : mS fm L xs g pg (pc + 1) ls st (mk x (m_ys y q c (vp_nar .boolean z))) A) : mS fm L xs g pg pc ls (.int z :: .int i :: .ref q :: st) (mk x y) A :=
  mS_one hl (by decide) (m_ast3y_step hq hx hi) (by rw [hc]; exact k)
theorem m_lsty_step {x : mX} {y : mY} {q n : Nat} {i : Int32} {z : Int64} (hq : mSH[q]? = some (100 + 1, n)) (hx : ¬ q < 279) (hi : m_in i n = true) : m_step fm L xs 15 a 1 d v ts pc ls (.long z :: .int i :: .ref q :: st) (mk x y) = some (pc + 1, ls, st, mk x (m_yl y q i.toNatClampNeg z)) := by
  have hB : q < mBIG := m_shB hq
  have hq : (mk x y).1[q]? = some (100 + 1, n) := hq
  simp only [m_step]
  rw [hq]
  dsimp only
  rw [if_pos ⟨rfl, hB, hi, trivial⟩, mk_yl x y _ _ hx]
theorem mS_lastorey {x : mX} {y : mY} {q n : Nat} {i : Int32} {z : Int64} {A : Option α} (hl : pg.lookup pc = some (15, a, 1, d, v, ts)) (hq : mSH[q]? = some (100 + 1, n)) (hx : ¬ q < 279) (k : m_in i n = true → mS fm L xs g pg (pc + 1) ls st (mk x (m_yl y q i.toNatClampNeg z)) A) : mS fm L xs g pg pc ls (.long z :: .int i :: .ref q :: st) (mk x y) (if m_in i n = true then A else none) :=
  mS_guard fun hi => mS_one hl (by decide) (m_lsty_step hq hx hi) (k hi)
theorem mS_lastoreyc {x : mX} {y : mY} {q n c : Nat} {i : Int32} {z : Int64} {A : Option α} (hl : pg.lookup pc = some (15, a, 1, d, v, ts)) (hq : mSH[q]? = some (100 + 1, n)) (hx : ¬ q < 279) (hi : m_in i n = true) (hc : i.toNatClampNeg = c) (k : mS fm L xs g pg (pc + 1) ls st (mk x (m_yl y q c z)) A) : mS fm L xs g pg pc ls (.long z :: .int i :: .ref q :: st) (mk x y) A :=
  mS_one hl (by decide) (m_lsty_step hq hx hi) (by rw [hc]; exact k)
theorem m_puty_step {x : mX} {y : mY} {q n b c : Nat} {z : Int32} (hq : mSH[q]? = some (b, n)) (hx : ¬ q < 279) (hf : m_ft b c = 0 ∨ m_ft b c = 2 ∧ (z = 0 ∨ z = 1)) : m_step fm L xs 13 a b c v ts pc ls (.int z :: .ref q :: st) (mk x y) = some (pc + 3, ls, st, mk x (m_ys y q c z)) := by
  have hB : q < mBIG := m_shB hq
  have hq : (mk x y).1[q]? = some (b, n) := hq
  simp only [m_step]
  rw [hq]
  dsimp only
  rw [if_pos ⟨rfl, hB⟩, mk_ys x y _ _ hx]
  rcases hf with hf | ⟨hf, hz⟩
  · rw [hf]; rfl
  · rw [hf]; exact if_pos hz
theorem mS_puty {x : mX} {y : mY} {q n b c : Nat} {z : Int32} {A : Option α} (hl : pg.lookup pc = some (13, a, b, c, v, ts)) (hq : mSH[q]? = some (b, n)) (hx : ¬ q < 279) (hf : m_ft b c = 0) (k : mS fm L xs g pg (pc + 3) ls st (mk x (m_ys y q c z)) A) : mS fm L xs g pg pc ls (.int z :: .ref q :: st) (mk x y) A :=
  mS_one hl (by decide) (m_puty_step hq hx (Or.inl hf)) k
theorem mS_putcy {x : mX} {y : mY} {q n b c : Nat} {z : Int32} {A : Option α} (hl : pg.lookup pc = some (13, a, b, c, v, ts)) (hq : mSH[q]? = some (b, n)) (hx : ¬ q < 279) (hf : m_ft b c = 2) (hz : z = 0 ∨ z = 1) (k : mS fm L xs g pg (pc + 3) ls st (mk x (m_ys y q c z)) A) : mS fm L xs g pg pc ls (.int z :: .ref q :: st) (mk x y) A :=
  mS_one hl (by decide) (m_puty_step hq hx (Or.inr ⟨hf, hz⟩)) k
theorem mS_putby {x : mX} {y : mY} {q n b c : Nat} {z : Int32} {A : Option α} (hl : pg.lookup pc = some (13, a, b, c, v, ts)) (hq : mSH[q]? = some (b, n)) (hx : ¬ q < 279) (hf : m_ft b c = 2) (k : (z = 0 ∨ z = 1) → mS fm L xs g pg (pc + 3) ls st (mk x (m_ys y q c z)) A) : mS fm L xs g pg pc ls (.int z :: .ref q :: st) (mk x y) (if z = 0 ∨ z = 1 then A else none) :=
  mS_guard fun hz => mS_one hl (by decide) (m_puty_step hq hx (Or.inr ⟨hf, hz⟩)) (k hz)
theorem mS_putt {x : mX} {y : mY} {j : Nat} {A : Option α} (hl : pg.lookup pc = some (13, a, 5, 8, v, ts)) (k : mS fm L xs g pg (pc + 3) ls st (mk (m_xt x j) y) A) : mS fm L xs g pg pc ls (.ref (mBIG + j) :: .ref 1 :: st) (mk x y) A :=
  mS_one hl (by decide) (by
    have hq : (mk x y).1[1]? = some (5, 17) := rfl
    simp only [m_step]
    rw [hq]
    dsimp only
    rw [if_pos ⟨rfl, by decide, by decide⟩, mk_xt]) k
theorem mS_tsw {i t : Nat} {x lo : Int32} {A : Option α} (hl : pg.lookup pc = some (23, a, 0, d, .int lo, ts)) (hx : x.toInt = lo.toInt + (i : Int)) (ht : ts[i]? = some t) (k : mS fm L xs g pg t ls st mem A) : mS fm L xs g pg pc ls (.int x :: st) mem A :=
  mS_one hl (by decide) (by
    have hlt := (List.getElem?_eq_some_iff.mp ht).1
    simp only [m_step]
    rw [if_neg (by omega), show (x.toInt - lo.toInt).toNat = i by omega, ht]) k
theorem mS_tswd {x lo : Int32} {A : Option α} (hl : pg.lookup pc = some (23, a, 0, d, .int lo, ts)) (hn : ∀ i, i < ts.length → x.toInt ≠ lo.toInt + (i : Int) ∨ ts[i]? = some d) (k : mS fm L xs g pg d ls st mem A) : mS fm L xs g pg pc ls (.int x :: st) mem A :=
  mS_one hl (by decide) (by
    simp only [m_step]
    by_cases h : x.toInt < lo.toInt ∨ lo.toInt + (ts.length : Int) ≤ x.toInt
    · rw [if_pos h]
    · rw [if_neg h]
      have hi : (x.toInt - lo.toInt).toNat < ts.length := by omega
      rcases hn _ hi with h1 | h1
      · exact absurd (by omega) h1
      · rw [h1]) k
theorem m_nlit {x l : Int32} {z : Int} (h : ¬ x = l) (hz : l.toInt = z) : x.toInt ≠ z := by
  intro e
  apply h
  apply Int32.toInt_inj.mp
  omega
end MB
