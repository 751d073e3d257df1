/-! ===== texts, index checks, states: by hand ===== -/
def m_sl (j : Nat) : Int32 := Int32.ofNat (m_str.getD j []).length
def m_sc (j : Nat) (i : Int32) : Int32 := (m_str.getD j []).getD i.toNatClampNeg 0
theorem m_rcvS {j ci : Nat} {r : List Value} {mem : mM} (hj : j < 9) : m_rcv 6 ci (.ref (mBIG + j) :: r) mem = true := by
  show (decide (mBIG ≤ mBIG + j) && decide (mBIG + j < mBIG + 9)) = true
  rw [decide_eq_true (show mBIG ≤ mBIG + j by omega), decide_eq_true (show mBIG + j < mBIG + 9 by omega)]
  rfl
section MT
variable {fm : Value} {L : Nat} {xs : Nat → Int32} {α : Type} {g : α → Value × mM} {pg : List (Nat × mO)} {pc a b d j : Nat} {v : Value} {ts : List Nat} {ls st : List Value} {mem : mM} {A : Option α}
theorem mS_s33 (hl : pg.lookup pc = some (33, a, b, d, v, ts)) (k : j < 9 → mS fm L xs g pg (pc + 3) ls (.ref (mBIG + j + 50) :: st) mem A) : mS fm L xs g pg pc ls (.ref (mBIG + j) :: st) mem (if j < 9 then A else none) :=
  mS_guard fun hj => mS_one hl (by decide) (by simp only [m_step]; rw [if_pos (show mBIG ≤ mBIG + j ∧ mBIG + j < mBIG + 9 from ⟨by omega, by omega⟩)]) (k hj)
theorem mS_s34 (hl : pg.lookup pc = some (34, a, b, d, v, ts)) (k : j < 9 → mS fm L xs g pg (pc + 3) ls (.int 0 :: st) mem A) : mS fm L xs g pg pc ls (.ref (mBIG + j) :: st) mem (if j < 9 then A else none) :=
  mS_guard fun hj => mS_one hl (by decide) (by simp only [m_step]; rw [if_pos (show mBIG ≤ mBIG + j ∧ mBIG + j < mBIG + 9 from ⟨by omega, by omega⟩)]) (k hj)
theorem mS_s38 (hl : pg.lookup pc = some (38, a, b, d, v, ts)) (k : j < 9 → mS fm L xs g pg (pc + 1) ls (.int (m_sl j) :: st) mem A) : mS fm L xs g pg pc ls (.ref (mBIG + j + 50) :: st) mem (if j < 9 then A else none) :=
  mS_guard fun hj => mS_one hl (by decide) (by simp only [m_step]; rw [if_pos (show mBIG + 50 ≤ mBIG + j + 50 ∧ mBIG + j + 50 < mBIG + 59 from ⟨by omega, by omega⟩), show mBIG + j + 50 - (mBIG + 50) = j by omega]; rfl) (k hj)
theorem mS_s39 {i : Int32} (hl : pg.lookup pc = some (39, a, b, d, v, ts)) (k : j < 9 ∧ m_in i (m_str.getD j []).length = true → mS fm L xs g pg (pc + 1) ls (.int (m_sc j i) :: st) mem A) : mS fm L xs g pg pc ls (.int i :: .ref (mBIG + j + 50) :: st) mem (if j < 9 ∧ m_in i (m_str.getD j []).length = true then A else none) :=
  mS_guard fun hj => mS_one hl (by decide) (by
    have e : mBIG + j + 50 - (mBIG + 50) = j := by omega
    simp only [m_step, e]
    rw [if_pos (show mBIG + 50 ≤ mBIG + j + 50 ∧ mBIG + j + 50 < mBIG + 59 ∧ m_in i (m_str.getD j []).length = true from ⟨by omega, by omega, hj.2⟩)]; rfl) (k hj)
theorem f_pchk_snd {i n : Int32} (hz : ¬ i < 0 ∧ i < n) (mem : mM) : mS fm L xs (fun r : Int32 => (.int r, mem)) pg_J3_checkIndex_8e157 0 [.int i, .int n, fm] [] mem (some i) := by
  refine mS_steps (pc' := 1) (ls' := [.int i, .int n, fm]) (st' := [.int i]) (mem' := mem) 1 rfl ?_
  refine mS_one (pc' := 4) (ls' := [.int i, .int n, fm]) (st' := []) (mem' := mem) rfl (by decide) (by show some (bif decide (i < 0) then _ else _, _, _, _) = _; rw [decide_eq_false hz.1]; rfl) ?_
  refine mS_steps (pc' := 6) (ls' := [.int i, .int n, fm]) (st' := [.int n, .int i]) (mem' := mem) 2 rfl ?_
  refine mS_one (pc' := 16) (ls' := [.int i, .int n, fm]) (st' := []) (mem' := mem) rfl (by decide) (by show some (bif decide (i < n) then _ else _, _, _, _) = _; rw [decide_eq_true hz.2]; rfl) ?_
  refine mS_steps (pc' := 17) (ls' := [.int i, .int n, fm]) (st' := [.int i]) (mem' := mem) 1 rfl ?_
  exact mS_reti ⟨_, _, _, _, _, rfl, rfl⟩ rfl
theorem f_chk_snd (hfm : fm = .null ∨ fm = .ref (mBIG + 200)) {i n : Int32} (hz : ¬ i < 0 ∧ i < n) (mem : mM) : mS fm L xs (fun _ : Unit => (mU, mem)) pg_J0_checkIndex_df160 0 (m_entry [.int i, .int n] 2) [] mem (some ()) := by
  rcases hfm with rfl | rfl
  · refine mS_steps (pc' := 5) (ls' := [.int i, .int n]) (st' := [.null, .int n, .int i]) (mem' := mem) 3 rfl ?_
    refine mS_call (q := i) 31 3 [.int i, .int n, .null] [] rfl rfl rfl ⟨_, _, _, rfl, rfl⟩ (Nat.le_of_ble_eq_true rfl) (Nat.le_of_ble_eq_true rfl) rfl (f_pchk_snd hz mem) ?_
    refine mS_steps (pc' := 9) (ls' := [.int i, .int n]) (st' := []) (mem' := mem) 1 rfl ?_
    exact mS_retv ⟨_, _, _, _, _, rfl⟩ rfl
  · refine mS_steps (pc' := 5) (ls' := [.int i, .int n]) (st' := [.ref (mBIG + 200), .int n, .int i]) (mem' := mem) 3 rfl ?_
    refine mS_call (q := i) 31 3 [.int i, .int n, .ref (mBIG + 200)] [] rfl rfl rfl ⟨_, _, _, rfl, rfl⟩ (Nat.le_of_ble_eq_true rfl) (Nat.le_of_ble_eq_true rfl) rfl (f_pchk_snd hz mem) ?_
    refine mS_steps (pc' := 9) (ls' := [.int i, .int n]) (st' := []) (mem' := mem) 1 rfl ?_
    exact mS_retv ⟨_, _, _, _, _, rfl⟩ rfl
end MT
/-- a State's cell: where its rows lie -/
def mStq (p : Nat) : Prop := p + 4 < 279 ∧ p ≠ 1 ∧ mSH[p]? = some (6, 14) ∧ (mRL.getD p (fun _ => none) 10 = some (p + 1) ∧ mRL.getD p (fun _ => none) 11 = some (p + 2) ∧ mRL.getD p (fun _ => none) 12 = some (p + 3) ∧ mRL.getD p (fun _ => none) 13 = some (p + 4)) ∧ mSH[p + 1]? = some (100 + 0, 16) ∧ mSH[p + 2]? = some (100 + 0, 16) ∧ mSH[p + 3]? = some (100 + 0, 16) ∧ mSH[p + 4]? = some (100 + 0, 16)
def mSts : List Nat := [2, 14, 21, 26, 31, 36, 41, 46, 51, 56, 61, 66, 71, 76, 81, 86, 91, 96, 101, 106, 111, 116, 121, 126, 131, 136, 141, 146, 151, 156, 161, 166, 171, 176, 181, 186, 191, 196, 201, 206, 211, 216, 264, 269, 274]
set_option maxRecDepth 20000 in
theorem m_stall : ∀ p ∈ mSts, mStq p := by unfold mStq; decide +kernel
theorem m_stq (p : Nat) (h : p ∈ mSts) : mStq p := m_stall p h
set_option maxRecDepth 20000 in
theorem m_past0 : ∀ i, i < 40 → ∃ p, mRR 0 20 i = some p ∧ p ∈ mSts := by
  have h : ∀ i, i < 40 → (match mRR 0 20 i with | some p => decide (p ∈ mSts) | none => false) = true := by decide +kernel
  intro i hi
  have h1 := h i hi
  split at h1
  · rename_i p hp
    exact ⟨p, hp, of_decide_eq_true h1⟩
  · cases h1
set_option maxRecDepth 20000 in
theorem m_slots0 : ∀ i, i < 3 → ∃ p, mRR 0 221 i = some p ∧ p ∈ mSts := by
  have h : ∀ i, i < 3 → (match mRR 0 221 i with | some p => decide (p ∈ mSts) | none => false) = true := by decide +kernel
  intro i hi
  have h1 := h i hi
  split at h1
  · rename_i p hp
    exact ⟨p, hp, of_decide_eq_true h1⟩
  · cases h1
theorem m_in_lt {i : Int32} {n : Nat} (h : m_in i n = true) : i.toNatClampNeg < n := by
  unfold m_in at h
  simp only [Bool.and_eq_true, decide_eq_true_eq] at h
  exact h.2
theorem m_past {j p : Nat} {i : Int32} (hi : m_in i 40 = true) (h : mRR j 20 i.toNatClampNeg = some p) : mStq p := by
  obtain ⟨p', h1, h2⟩ := m_past0 _ (m_in_lt hi)
  have h3 : mRR j 20 i.toNatClampNeg = mRR 0 20 i.toNatClampNeg := rfl
  rw [h3, h1] at h
  cases h
  exact m_stq _ h2
theorem m_slots {j p : Nat} {i : Int32} (hi : m_in i 3 = true) (h : mRR j 221 i.toNatClampNeg = some p) : mStq p := by
  obtain ⟨p', h1, h2⟩ := m_slots0 _ (m_in_lt hi)
  have h3 : mRR j 221 i.toNatClampNeg = mRR 0 221 i.toNatClampNeg := rfl
  rw [h3, h1] at h
  cases h
  exact m_stq _ h2
theorem m_rcvV {p : Nat} {r : List Value} {x : mX} {y : mY} (h : mStq p) : m_rcv 2 6 (.ref p :: r) (mk x y) = true := by
  have h1 : (mk x y).1[p]? = some (6, 14) := h.2.2.1
  show (decide (p < mBIG) && (match (mk x y).1[p]? with
    | some sh => decide (sh.1 = 6)
    | none => false)) = true
  rw [h1, decide_eq_true (m_shB h.2.2.1)]
  rfl
section MV0
variable {fm : Value} {L : Nat} {xs : Nat → Int32} {α : Type} {g : α → Value × mM} {pg : List (Nat × mO)} {pc a d : Nat} {v : Value} {ts : List Nat} {ls st : List Value} {mem : mM} {A : Option α} {i z : Int32}
theorem mS_div (hl : pg.lookup pc = some (5, a, 0, d, v, ts)) (hz : ¬ z = 0) (k : mS fm L xs g pg (pc + 1) ls (.int (i / z) :: st) mem A) : mS fm L xs g pg pc ls (.int z :: .int i :: st) mem A :=
  mS_one hl (by decide) (by simp only [m_step]; rw [if_neg hz]) k
theorem mS_rem (hl : pg.lookup pc = some (5, a, 1, d, v, ts)) (hz : ¬ z = 0) (k : mS fm L xs g pg (pc + 1) ls (.int (i - i / z * z) :: st) mem A) : mS fm L xs g pg pc ls (.int z :: .int i :: st) mem A :=
  mS_one hl (by decide) (by simp only [m_step]; rw [if_neg hz]) k
end MV0
section MV
variable {fm : Value} {L : Nat} {xs : Nat → Int32} {α : Type} {g : α → Value × mM} {pg : List (Nat × mO)} {pc a c p : Nat} {v : Value} {ts : List Nat} {ls st : List Value} {x : mX} {y : mY} {A : Option α} {i z : Int32}
theorem mS_getq (hl : pg.lookup pc = some (12, a, 6, c, v, ts)) (hp : mStq p) (hf : m_ft 6 c = 0) (k : mS fm L xs g pg (pc + 3) ls (.int (x.1 p c) :: st) (mk x y) A) : mS fm L xs g pg pc ls (.ref p :: st) (mk x y) A :=
  mS_one hl (by decide) (by
    have h1 : (mk x y).1[p]? = some (6, 14) := hp.2.2.1
    have h2 : (mk x y).2.1 p c = x.1 p c := by show (if p < 279 then x.1 p else y.1 p) c = _; rw [if_pos (by have := hp.1; omega)]
    simp only [m_step]
    rw [h1]
    dsimp only
    rw [if_pos ⟨rfl, m_shB hp.2.2.1⟩, hf, h2]; rfl) k
theorem mS_putq (hl : pg.lookup pc = some (13, a, 6, c, v, ts)) (hp : mStq p) (hf : m_ft 6 c = 0) (k : mS fm L xs g pg (pc + 3) ls st (mk (m_xs x p c z) y) A) : mS fm L xs g pg pc ls (.int z :: .ref p :: st) (mk x y) A :=
  mS_putx hl hp.2.2.1 (by have := hp.1; omega) hf k
theorem mS_getqr10 (hl : pg.lookup pc = some (12, a, 6, 10, v, ts)) (hp : mStq p) (k : mS fm L xs g pg (pc + 3) ls (.ref (p + 1) :: st) (mk x y) A) : mS fm L xs g pg pc ls (.ref p :: st) (mk x y) A :=
  mS_one hl (by decide) (by
    have h1 : (mk x y).1[p]? = some (6, 14) := hp.2.2.1
    have h2 : (mk x y).2.2.2 p 10 = some (p + 1) := by show mRR x.2.2 p 10 = _; unfold mRR; rw [if_neg hp.2.1]; exact hp.2.2.2.1.1
    simp only [m_step]
    rw [h1]
    dsimp only
    rw [if_pos ⟨rfl, m_shB hp.2.2.1⟩, show m_ft 6 10 = 1 from by decide]
    show (match (mk x y).2.2.2 p 10 with
      | some z => some (pc + 3, ls, Value.ref z :: st, mk x y)
      | none => some (pc + 3, ls, Value.null :: st, mk x y)) = _
    rw [h2]) k
theorem mS_aldq1 (hl : pg.lookup pc = some (14, a, 0, c, v, ts)) (hp : mStq p) (kk : m_in i 16 = true → mS fm L xs g pg (pc + 1) ls (.int (x.1 (p + 1) i.toNatClampNeg) :: st) (mk x y) A) : mS fm L xs g pg pc ls (.int i :: .ref (p + 1) :: st) (mk x y) (if m_in i 16 = true then A else none) :=
  mS_ald hl (by decide) hp.2.2.2.2.1 (m_shB hp.2.2.2.2.1) (by show (if p + 1 < 279 then x.1 (p + 1) else y.1 (p + 1)) _ = _; rw [if_pos (by have := hp.1; omega)]) kk
theorem mS_astq1 (hl : pg.lookup pc = some (15, a, 0, c, v, ts)) (hp : mStq p) (kk : m_in i 16 = true → mS fm L xs g pg (pc + 1) ls st (mk (m_xs x (p + 1) i.toNatClampNeg z) y) A) : mS fm L xs g pg pc ls (.int z :: .int i :: .ref (p + 1) :: st) (mk x y) (if m_in i 16 = true then A else none) :=
  mS_ast0x hl hp.2.2.2.2.1 (by have := hp.1; omega) kk
theorem mS_getqr11 (hl : pg.lookup pc = some (12, a, 6, 11, v, ts)) (hp : mStq p) (k : mS fm L xs g pg (pc + 3) ls (.ref (p + 2) :: st) (mk x y) A) : mS fm L xs g pg pc ls (.ref p :: st) (mk x y) A :=
  mS_one hl (by decide) (by
    have h1 : (mk x y).1[p]? = some (6, 14) := hp.2.2.1
    have h2 : (mk x y).2.2.2 p 11 = some (p + 2) := by show mRR x.2.2 p 11 = _; unfold mRR; rw [if_neg hp.2.1]; exact hp.2.2.2.1.2.1
    simp only [m_step]
    rw [h1]
    dsimp only
    rw [if_pos ⟨rfl, m_shB hp.2.2.1⟩, show m_ft 6 11 = 1 from by decide]
    show (match (mk x y).2.2.2 p 11 with
      | some z => some (pc + 3, ls, Value.ref z :: st, mk x y)
      | none => some (pc + 3, ls, Value.null :: st, mk x y)) = _
    rw [h2]) k
theorem mS_aldq2 (hl : pg.lookup pc = some (14, a, 0, c, v, ts)) (hp : mStq p) (kk : m_in i 16 = true → mS fm L xs g pg (pc + 1) ls (.int (x.1 (p + 2) i.toNatClampNeg) :: st) (mk x y) A) : mS fm L xs g pg pc ls (.int i :: .ref (p + 2) :: st) (mk x y) (if m_in i 16 = true then A else none) :=
  mS_ald hl (by decide) hp.2.2.2.2.2.1 (m_shB hp.2.2.2.2.2.1) (by show (if p + 2 < 279 then x.1 (p + 2) else y.1 (p + 2)) _ = _; rw [if_pos (by have := hp.1; omega)]) kk
theorem mS_astq2 (hl : pg.lookup pc = some (15, a, 0, c, v, ts)) (hp : mStq p) (kk : m_in i 16 = true → mS fm L xs g pg (pc + 1) ls st (mk (m_xs x (p + 2) i.toNatClampNeg z) y) A) : mS fm L xs g pg pc ls (.int z :: .int i :: .ref (p + 2) :: st) (mk x y) (if m_in i 16 = true then A else none) :=
  mS_ast0x hl hp.2.2.2.2.2.1 (by have := hp.1; omega) kk
theorem mS_getqr12 (hl : pg.lookup pc = some (12, a, 6, 12, v, ts)) (hp : mStq p) (k : mS fm L xs g pg (pc + 3) ls (.ref (p + 3) :: st) (mk x y) A) : mS fm L xs g pg pc ls (.ref p :: st) (mk x y) A :=
  mS_one hl (by decide) (by
    have h1 : (mk x y).1[p]? = some (6, 14) := hp.2.2.1
    have h2 : (mk x y).2.2.2 p 12 = some (p + 3) := by show mRR x.2.2 p 12 = _; unfold mRR; rw [if_neg hp.2.1]; exact hp.2.2.2.1.2.2.1
    simp only [m_step]
    rw [h1]
    dsimp only
    rw [if_pos ⟨rfl, m_shB hp.2.2.1⟩, show m_ft 6 12 = 1 from by decide]
    show (match (mk x y).2.2.2 p 12 with
      | some z => some (pc + 3, ls, Value.ref z :: st, mk x y)
      | none => some (pc + 3, ls, Value.null :: st, mk x y)) = _
    rw [h2]) k
theorem mS_aldq3 (hl : pg.lookup pc = some (14, a, 0, c, v, ts)) (hp : mStq p) (kk : m_in i 16 = true → mS fm L xs g pg (pc + 1) ls (.int (x.1 (p + 3) i.toNatClampNeg) :: st) (mk x y) A) : mS fm L xs g pg pc ls (.int i :: .ref (p + 3) :: st) (mk x y) (if m_in i 16 = true then A else none) :=
  mS_ald hl (by decide) hp.2.2.2.2.2.2.1 (m_shB hp.2.2.2.2.2.2.1) (by show (if p + 3 < 279 then x.1 (p + 3) else y.1 (p + 3)) _ = _; rw [if_pos (by have := hp.1; omega)]) kk
theorem mS_astq3 (hl : pg.lookup pc = some (15, a, 0, c, v, ts)) (hp : mStq p) (kk : m_in i 16 = true → mS fm L xs g pg (pc + 1) ls st (mk (m_xs x (p + 3) i.toNatClampNeg z) y) A) : mS fm L xs g pg pc ls (.int z :: .int i :: .ref (p + 3) :: st) (mk x y) (if m_in i 16 = true then A else none) :=
  mS_ast0x hl hp.2.2.2.2.2.2.1 (by have := hp.1; omega) kk
theorem mS_getqr13 (hl : pg.lookup pc = some (12, a, 6, 13, v, ts)) (hp : mStq p) (k : mS fm L xs g pg (pc + 3) ls (.ref (p + 4) :: st) (mk x y) A) : mS fm L xs g pg pc ls (.ref p :: st) (mk x y) A :=
  mS_one hl (by decide) (by
    have h1 : (mk x y).1[p]? = some (6, 14) := hp.2.2.1
    have h2 : (mk x y).2.2.2 p 13 = some (p + 4) := by show mRR x.2.2 p 13 = _; unfold mRR; rw [if_neg hp.2.1]; exact hp.2.2.2.1.2.2.2
    simp only [m_step]
    rw [h1]
    dsimp only
    rw [if_pos ⟨rfl, m_shB hp.2.2.1⟩, show m_ft 6 13 = 1 from by decide]
    show (match (mk x y).2.2.2 p 13 with
      | some z => some (pc + 3, ls, Value.ref z :: st, mk x y)
      | none => some (pc + 3, ls, Value.null :: st, mk x y)) = _
    rw [h2]) k
theorem mS_aldq4 (hl : pg.lookup pc = some (14, a, 0, c, v, ts)) (hp : mStq p) (kk : m_in i 16 = true → mS fm L xs g pg (pc + 1) ls (.int (x.1 (p + 4) i.toNatClampNeg) :: st) (mk x y) A) : mS fm L xs g pg pc ls (.int i :: .ref (p + 4) :: st) (mk x y) (if m_in i 16 = true then A else none) :=
  mS_ald hl (by decide) hp.2.2.2.2.2.2.2 (m_shB hp.2.2.2.2.2.2.2) (by show (if p + 4 < 279 then x.1 (p + 4) else y.1 (p + 4)) _ = _; rw [if_pos (by have := hp.1; omega)]) kk
theorem mS_astq4 (hl : pg.lookup pc = some (15, a, 0, c, v, ts)) (hp : mStq p) (kk : m_in i 16 = true → mS fm L xs g pg (pc + 1) ls st (mk (m_xs x (p + 4) i.toNatClampNeg z) y) A) : mS fm L xs g pg pc ls (.int z :: .int i :: .ref (p + 4) :: st) (mk x y) (if m_in i 16 = true then A else none) :=
  mS_ast0x hl hp.2.2.2.2.2.2.2 (by have := hp.1; omega) kk
end MV
