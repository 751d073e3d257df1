/-! ===== the memory that the constructors leave, as two memories ===== -/
theorem mk_gen (M : mM) (h1 : M.1 = mSH) (h2 : M.2.2.2 = mRR 0) : M = mk (M.2.1, M.2.2.1, 0) (M.2.1, M.2.2.1) := by
  obtain ⟨a, b, c, d⟩ := M
  have h1 : a = mSH := h1
  have h2 : d = mRR 0 := h2
  subst h1 h2
  unfold mk
  have f1 : (fun q => if q < 279 then b q else b q) = b := funext fun q => ite_self _
  have f2 : (fun q => if q < 279 then c q else c q) = c := funext fun q => ite_self _
  show (mSH, b, c, mRR 0) = (mSH, (fun q => if q < 279 then b q else b q), (fun q => if q < 279 then c q else c q), mRR 0)
  rw [f1, f2]
def x00 : mX := ((mMk 637).2.1, (mMk 637).2.2.1, 0)
def y00 : mY := ((mMk 637).2.1, (mMk 637).2.2.1)
theorem mk_00 : mMk 637 = mk x00 y00 := mk_gen (mMk 637) shapes_ok refs_ok
/-! numbers at the start -/
def oI0 (o : Nat × Nat × Nat × Nat × Int) : Bool := match o with
  | (3, q, _, _, _) => Nat.beq q 1 || Nat.beq q 279
  | _ => true
theorem ints_L : ∀ l : List (Nat × Nat × Nat × Nat × Int), (∀ o, o ∈ l → oI0 o = true) → ∀ q c, q ≠ 1 → q ≠ 279 → (m_opl l.reverse m_mem0).2.1 q c = 0
  | [], _, _, _, _, _ => rfl
  | (0, b, a, d, z) :: t, h, q, c, q1, q2 => by
    have ih := ints_L t (fun o ho => h o (List.mem_cons_of_mem _ ho)) q c q1 q2
    rw [List.reverse_cons, m_opl_app]
    show va_up (m_opl t.reverse m_mem0).2.1 a (fun _ => 0) q c = 0
    by_cases e : q = a
    · subst e
      rw [m_up_eq]
    · rw [m_up_ne _ _ e]
      exact ih
  | (1, b, n, a, z) :: t, h, q, c, q1, q2 => by
    have ih := ints_L t (fun o ho => h o (List.mem_cons_of_mem _ ho)) q c q1 q2
    rw [List.reverse_cons, m_opl_app]
    show va_up (m_opl t.reverse m_mem0).2.1 a (fun _ => 0) q c = 0
    by_cases e : q = a
    · subst e
      rw [m_up_eq]
    · rw [m_up_ne _ _ e]
      exact ih
  | (2, p, d, r, z) :: t, h, q, c, q1, q2 => by
    have ih := ints_L t (fun o ho => h o (List.mem_cons_of_mem _ ho)) q c q1 q2
    rw [List.reverse_cons, m_opl_app]
    exact ih
  | (3, p, d, r, z) :: t, h, q, c, q1, q2 => by
    have ih := ints_L t (fun o ho => h o (List.mem_cons_of_mem _ ho)) q c q1 q2
    rw [List.reverse_cons, m_opl_app]
    show va_up (m_opl t.reverse m_mem0).2.1 p (va_up ((m_opl t.reverse m_mem0).2.1 p) d (Int32.ofInt z)) q c = 0
    have hp : (Nat.beq p 1 || Nat.beq p 279) = true := h (3, p, d, r, z) (List.mem_cons_self ..)
    have e : ¬ q = p := fun e => by
      rw [Bool.or_eq_true] at hp
      rcases hp with k | k
      · exact q1 (e.trans (Nat.eq_of_beq_eq_true k))
      · exact q2 (e.trans (Nat.eq_of_beq_eq_true k))
    rw [m_up_ne _ _ e]
    exact ih
  | (n + 4, p, d, r, z) :: t, h, q, c, q1, q2 => by
    have ih := ints_L t (fun o ho => h o (List.mem_cons_of_mem _ ho)) q c q1 q2
    rw [List.reverse_cons, m_opl_app]
    exact ih
set_option maxRecDepth 20000 in
theorem ops_i0 : ∀ o, o ∈ OPS.reverse → oI0 o = true := fun o ho => List.all_eq_true.mp (show OPS.reverse.all oI0 = true by decide +kernel) o ho
theorem ints_0 (q c : Nat) (h1 : q ≠ 1) (h2 : q ≠ 279) : (mMk 637).2.1 q c = 0 := by
  rw [mMk_r]
  exact ints_L _ ops_i0 q c h1 h2
set_option maxRecDepth 20000 in
theorem ints_1 : (mMk 637).2.1 1 0 = 0 ∧ (mMk 637).2.1 1 1 = -1 ∧ (mMk 637).2.1 279 2 = 0 ∧ (mMk 637).2.1 279 16 = -1 ∧ (mMk 637).2.1 279 17 = 0 ∧ (mMk 637).2.1 279 18 = -2 ∧ (mMk 637).2.1 279 26 = 0 ∧ (mMk 637).2.1 279 27 = 0 ∧ (mMk 637).2.1 279 30 = 0 := by decide +kernel
set_option maxRecDepth 20000 in
theorem longs_1 : (mMk 637).2.2.1 286 0 = 326396 ∧ (mMk 637).2.2.1 286 1 = 243146 ∧ (mMk 637).2.2.1 286 2 = 11103 ∧ (mMk 637).2.2.1 286 3 = 365654 ∧ (mMk 637).2.2.1 286 4 = 90302 := by decide +kernel
