/-! ===== which instructions are right: a program decides it; and a right step is sound ===== -/
def m_at (k : Nat) (w : Cond) : Bool := decide (lw_tbl[k]? = some w)
theorem m_at_mem {k : Nat} {w : Cond} (h : m_at k w = true) (hg : goodWord w = true) : w ∈ mG := mG_at (of_decide_eq_true h) hg
def m_f4 (b : Nat) : Fin 4 := ⟨b % 4, Nat.mod_lt _ (by decide)⟩
def m_cmp (b : Nat) : Jvm.ClassFile.Cond := match b with
  | 0 => .eq
  | 1 => .ne
  | 2 => .lt
  | 3 => .ge
  | 4 => .gt
  | _ => .le
def m_okS (own nm : String) (cc : ByteArray) (fr lo : Nat) (op a b d : Nat) (v : Value) (ts : List Nat) (pc : Nat) : Bool := match op with
  | 0 => match b, v with
    | 0, .int x => decide (a = 1) && decide (decode cc pc = .ok (.iconst x.toInt, 1))
    | 1, .int x => decide (a = 2) && (decide (decode cc pc = .ok (.bipush x.toInt, 2)) && decide ((Int8.ofInt x.toInt).toInt32 = x))
    | 2, .int x => decide (a = 3) && (decide (decode cc pc = .ok (.sipush x.toInt, 3)) && decide ((Int16.ofInt x.toInt).toInt32 = x))
    | 3, .int x => match decode cc pc with
      | .ok (.ldc i, 2) => decide (a = 2) && m_at d (.constant own i x)
      | _ => false
    | 4, .int x => match decode cc pc with
      | .ok (.ldc_w i, 3) => decide (a = 3) && m_at d (.constant own i x)
      | _ => false
    | 5, .long x => decide (a = 1) && (decide (decode cc pc = .ok (.lconst 0, 1)) && decide (x = 0))
    | 6, .long x => match decode cc pc with
      | .ok (.ldc2_w i, 3) => decide (a = 3) && m_at d (.constantLong own i x)
      | _ => false
    | 7, .ref q => match m_tx[d]? with
      | some w => decide (a = 2) && (decide (own = RX5) && (decide (q = mBIG + d) && decide (decode cc pc = .ok (.ldc w.1, 2))))
      | none => false
    | _, _ => false
  | 1 => match d with
    | 0 => (decide (a = 2) && decide (decode cc pc = .ok (.iload b, 2))) || (decide (a = 1) && (decide (b < 4) && decide (decode cc pc = .ok (.iload_n (m_f4 b), 1))))
    | 1 => (decide (a = 2) && decide (decode cc pc = .ok (.lload b, 2))) || (decide (a = 1) && (decide (b < 4) && decide (decode cc pc = .ok (.lload_n (m_f4 b), 1))))
    | 2 => (decide (a = 2) && decide (decode cc pc = .ok (.aload b, 2))) || (decide (a = 1) && (decide (b < 4) && decide (decode cc pc = .ok (.aload_n (m_f4 b), 1))))
    | _ => false
  | 2 => match d with
    | 0 => (decide (a = 2) && decide (decode cc pc = .ok (.istore b, 2))) || (decide (a = 1) && (decide (b < 4) && decide (decode cc pc = .ok (.istore_n (m_f4 b), 1))))
    | 1 => (decide (a = 2) && decide (decode cc pc = .ok (.lstore b, 2))) || (decide (a = 1) && (decide (b < 4) && decide (decode cc pc = .ok (.lstore_n (m_f4 b), 1))))
    | 2 => (decide (a = 2) && decide (decode cc pc = .ok (.astore b, 2))) || (decide (a = 1) && (decide (b < 4) && decide (decode cc pc = .ok (.astore_n (m_f4 b), 1))))
    | _ => false
  | 3 => match v with
    | .int k => decide (decode cc pc = .ok (.iinc b k.toInt, 3))
    | _ => false
  | 4 => match b with
    | 0 => decide (decode cc pc = .ok (.iadd, 1))
    | 1 => decide (decode cc pc = .ok (.isub, 1))
    | 2 => decide (decode cc pc = .ok (.imul, 1))
    | 3 => decide (decode cc pc = .ok (.iand, 1))
    | 4 => decide (decode cc pc = .ok (.ior, 1))
    | 5 => decide (decode cc pc = .ok (.ixor, 1))
    | 6 => decide (decode cc pc = .ok (.ishl, 1))
    | 7 => decide (decode cc pc = .ok (.ishr, 1))
    | _ => decide (decode cc pc = .ok (.iushr, 1))
  | 5 => match b with
    | 0 => decide (decode cc pc = .ok (.idiv, 1))
    | _ => decide (decode cc pc = .ok (.irem, 1))
  | 6 => match b with
    | 0 => decide (decode cc pc = .ok (.ladd, 1))
    | _ => decide (decode cc pc = .ok (.lmul, 1))
  | 7 => decide (decode cc pc = .ok (.lcmp, 1))
  | 8 => match b with
    | 0 => decide (decode cc pc = .ok (.i2l, 1))
    | 1 => decide (decode cc pc = .ok (.l2i, 1))
    | 2 => decide (decode cc pc = .ok (.i2b, 1))
    | _ => decide (decode cc pc = .ok (.i2c, 1))
  | 9 => decide (decode cc pc = .ok (.dup, 1))
  | 10 => decide (decode cc pc = .ok (.dup2, 1))
  | 11 => decide (decode cc pc = .ok (.pop, 1))
  | 12 => match mCL[b]?, decode cc pc with
    | some r, .ok (.getfield i, 3) => decide (d < r.2.2) && m_at a (.fieldLink own i (r.2.1 d).1 (r.2.1 d).2.1 (r.2.1 d).2.2.1)
    | _, _ => false
  | 13 => match mCL[b]?, decode cc pc with
    | some r, .ok (.putfield i, 3) => decide (d < r.2.2) && (m_at a (.fieldLink own i (r.2.1 d).1 (r.2.1 d).2.1 (r.2.1 d).2.2.1) && (match parseFieldDescriptor (r.2.1 d).2.2.1 with
      | some .int => decide (m_ft b d = 0) && decide ((r.2.1 d).2.2.2 = false)
      | some .boolean => decide (m_ft b d = 2) && decide ((r.2.1 d).2.2.2 = false)
      | some (.object _) => decide (m_ft b d = 1) && (decide ((r.2.1 d).2.2.2 = false) || decide ((r.2.1 d).2.2.2 = true ∧ nm = "<init>" ∧ (r.2.1 d).1 = own))
      | some (.array _) => decide (m_ft b d = 1) && (decide ((r.2.1 d).2.2.2 = false) || decide ((r.2.1 d).2.2.2 = true ∧ nm = "<init>" ∧ (r.2.1 d).1 = own))
      | _ => false))
    | _, _ => false
  | 14 => match b with
    | 0 => decide (decode cc pc = .ok (.iaload, 1))
    | 1 => decide (decode cc pc = .ok (.laload, 1))
    | 2 => decide (decode cc pc = .ok (.baload, 1))
    | 3 => decide (decode cc pc = .ok (.baload, 1))
    | 4 => decide (decode cc pc = .ok (.aaload, 1))
    | _ => false
  | 15 => match b with
    | 0 => decide (decode cc pc = .ok (.iastore, 1))
    | 1 => decide (decode cc pc = .ok (.lastore, 1))
    | 2 => decide (decode cc pc = .ok (.bastore, 1))
    | 3 => decide (decode cc pc = .ok (.bastore, 1))
    | 4 => decide (decode cc pc = .ok (.aastore, 1))
    | _ => false
  | 16 => decide (b < 5) && decide (decode cc pc = .ok (.arraylength, 1))
  | 17 => match mCL[b]?, decode cc pc with
    | some r, .ok (.new i, 3) => m_at (ts.getD 0 0) (.classLink own i r.1) && (m_at (ts.getD 1 0) (.instantiable r.1 r.2.2) && m_at (ts.getD 2 0) (.initialized r.1))
    | _, _ => false
  | 18 => match b with
    | 0 => decide (a = 2) && (decide (decode cc pc = .ok (.newarray .int, 2)) && m_at d (.arrayClass .int))
    | 1 => decide (a = 2) && (decide (decode cc pc = .ok (.newarray .long, 2)) && m_at d (.arrayClass .long))
    | 2 => decide (a = 2) && (decide (decode cc pc = .ok (.newarray .byte, 2)) && m_at d (.arrayClass .byte))
    | 3 => decide (a = 2) && (decide (decode cc pc = .ok (.newarray .boolean, 2)) && m_at d (.arrayClass .boolean))
    | 4 => match decode cc pc with
      | .ok (.anewarray i, 3) => decide (a = 3) && m_at d (.classLink own i RX6)
      | _ => false
    | _ => false
  | 20 => decide (decode cc pc = .ok (.ifCond (m_cmp b) ((d : Int) - (pc : Int)), 3))
  | 21 => decide (decode cc pc = .ok (.if_icmp (m_cmp b) ((d : Int) - (pc : Int)), 3))
  | 22 => decide (decode cc pc = .ok (.goto ((d : Int) - (pc : Int)), 3))
  | 23 => match v, decode cc pc with
    | .int lo0, .ok (.tableswitch df l0 hi offs, _) => decide (l0 = lo0.toInt) && (decide (hi + 1 = lo0.toInt + (ts.length : Int)) && (decide (offs.toList = ts.map fun (t : Nat) => (t : Int) - (pc : Int)) && decide (df = (d : Int) - (pc : Int))))
    | _, _ => false
  | 24 => match decode cc pc with
    | .ok (.invokespecial i, 3) => decide (1 ≤ fr) && (decide (20 ≤ lo) && m_at a (.methodLink own i Lib.objectInit))
    | _ => false
  | 25 => decide (own = RL) && decide (decode cc pc = .ok (.arraylength, 1))
  | 26 => decide (own = RL) && decide (decode cc pc = .ok (.iaload, 1))
  | 33 => match decode cc pc with
    | .ok (.getfield i, 3) => m_at a (.fieldLink own i "java/lang/String" "value" "[B")
    | _ => false
  | 34 => match decode cc pc with
    | .ok (.getfield i, 3) => m_at a (.fieldLink own i "java/lang/String" "coder" "B")
    | _ => false
  | 35 => match decode cc pc with
    | .ok (.getstatic i, 3) => m_at a (.fieldLink own i "java/lang/String" "COMPACT_STRINGS" "Z")
    | _ => false
  | 36 => match decode cc pc with
    | .ok (.getstatic i, 3) => m_at a (.fieldLink own i "jdk/internal/util/Preconditions" "SIOOBE_FORMATTER" "Ljava/util/function/BiFunction;")
    | _ => false
  | 38 => decide (decode cc pc = .ok (.arraylength, 1))
  | 40 => match decode cc pc with
    | .ok (.invokestatic i, 3) => decide (1 ≤ fr ∧ 21 ≤ lo) && (m_at a (.methodLink own i Lib.Math.max.name) && (m_at (ts.getD 0 0) (.static Lib.Math.max.name) && (m_at (ts.getD 1 0) (.initialized "java/lang/Math") && m_at (ts.getD 2 0) (.code Lib.Math.max.name Lib.Math.max.code 2 (some .int)))))
    | _ => false
  | 41 => match decode cc pc with
    | .ok (.invokestatic i, 3) => decide (1 ≤ fr ∧ 21 ≤ lo) && (m_at a (.methodLink own i Lib.Math.min.name) && (m_at (ts.getD 0 0) (.static Lib.Math.min.name) && (m_at (ts.getD 1 0) (.initialized "java/lang/Math") && m_at (ts.getD 2 0) (.code Lib.Math.min.name Lib.Math.min.code 2 (some .int)))))
    | _ => false
  | 39 => decide (decode cc pc = .ok (.baload, 1))
  | _ => false
set_option maxRecDepth 20000 in
theorem m_oi1 : Cond.instanceMethod Lib.objectInit ∈ mG := by
  have h : decide (Cond.instanceMethod Lib.objectInit ∈ lw_tbl) = true := by decide +kernel
  exact List.mem_filter.mpr ⟨of_decide_eq_true h, rfl⟩
set_option maxRecDepth 20000 in
theorem m_oi2 : Cond.code Lib.objectInit ⟨#[0xb1]⟩ 1 none ∈ mG := by
  have h : decide (Cond.code Lib.objectInit ⟨#[0xb1]⟩ 1 none ∈ lw_tbl) = true := by decide +kernel
  exact List.mem_filter.mpr ⟨of_decide_eq_true h, rfl⟩
theorem m_okS_nm {own nm nm' : String} {cc : ByteArray} {fr lo op a b d : Nat} {v : Value} {ts : List Nat} {pc : Nat} (h : op ≠ 13) : m_okS own nm cc fr lo op a b d v ts pc = m_okS own nm' cc fr lo op a b d v ts pc := by
  unfold m_okS
  split <;> first | rfl | exact absurd rfl h
theorem m_f4_v {b : Nat} (h : b < 4) : ((m_f4 b : Fin 4) : Nat) = b := Nat.mod_eq_of_lt h
section MS
variable {p : Program} {l : Launch} {e : Env} {R : Room} {s : State} {m : MethodId} {args : Array Value} {below : List Frame} {meth : Method} {c : Code} {cells slots : Nat} {Q : State → Prop}
variable {own nm : String} {cc : ByteArray} {nL : Nat} {D : va_G} {cA : Nat → ClassId} {base : Nat} {ext : Nat → Nat} {fm : Value} {pc : Nat} {ls st : List Value} {mem : mM}
theorem m_W0 {mem' : mM} {pc' : Nat} {ls' st' : List Value} (h1 : mem'.1 = mem.1) (k : m_W p l e R s m args below meth c D cA base ext nL Q pc' ls' st' mem' (cells + (mem'.1.length - mem.1.length)) (slots + (m_sz mem' - m_sz mem))) : m_W p l e R s m args below meth c D cA base ext nL Q pc' ls' st' mem' cells slots := by
  have e : m_sz mem' = m_sz mem := by unfold m_sz; rw [h1]
  rw [e, h1, Nat.sub_self, Nat.sub_self] at k
  exact k
theorem m_off {d q : Nat} : (q : Int) + ((d : Int) - (q : Int)) = (d : Int) := by omega
theorem m_step_snd {L : Nat} {xs : Nat → Int32} {fr lo a b d : Nat} {v : Value} {ts : List Nat} {pc' : Nat} {ls' st' : List Value} {mem' : mM} (C : m_C p s m c args meth own nm cc nL D cA base ext fm) (hX : own = RL → ∃ w, va_X w L xs s s.heap ∧ w < s.heap.size ∧ ¬ m_A base w ∧ m_ad base ext (mBIG + 100) = w) (hfr : fr ≤ R.frames) (hlo : lo ≤ R.locals) (hsz : s.heap.size + cells = base + mem.1.length) (hcl : cells + (mem'.1.length - mem.1.length) ≤ R.cells) (hsl : slots + (m_sz mem' - m_sz mem) ≤ R.slots) (k : m_W p l e R s m args below meth c D cA base ext nL Q pc' ls' st' mem' (cells + (mem'.1.length - mem.1.length)) (slots + (m_sz mem' - m_sz mem))) : ∀ op : Nat, m_okS own nm cc fr lo op a b d v ts pc = true → m_step fm L xs op a b d v ts pc ls st mem = some (pc', ls', st', mem') → m_W p l e R s m args below meth c D cA base ext nL Q pc ls st mem cells slots
  | 0, hok, hst => by
    cases hst
    have k := m_W0 rfl k
    match b, v, hok with
    | 0, .int x, hok =>
      simp only [m_okS, Bool.and_eq_true, decide_eq_true_eq] at hok
      obtain ⟨rfl, h2⟩ := hok
      exact ms_iconst C h2 (Int32.ofInt_toInt ..) k
    | 1, .int x, hok =>
      simp only [m_okS, Bool.and_eq_true, decide_eq_true_eq] at hok
      obtain ⟨rfl, h2, h3⟩ := hok
      exact ms_bipush C h2 h3 k
    | 2, .int x, hok =>
      simp only [m_okS, Bool.and_eq_true, decide_eq_true_eq] at hok
      obtain ⟨rfl, h2, h3⟩ := hok
      exact ms_sipush C h2 h3 k
    | 3, .int x, hok =>
      simp only [m_okS] at hok
      split at hok
      · rename_i i hd
        simp only [Bool.and_eq_true, decide_eq_true_eq] at hok
        obtain ⟨rfl, h2⟩ := hok
        exact ms_ldc C (m_at_mem h2 rfl) hd k
      · cases hok
    | 4, .int x, hok =>
      simp only [m_okS] at hok
      split at hok
      · rename_i i hd
        simp only [Bool.and_eq_true, decide_eq_true_eq] at hok
        obtain ⟨rfl, h2⟩ := hok
        exact ms_ldcw C (m_at_mem h2 rfl) hd k
      · cases hok
    | 5, .long x, hok =>
      simp only [m_okS, Bool.and_eq_true, decide_eq_true_eq] at hok
      obtain ⟨rfl, h2, rfl⟩ := hok
      exact ms_lconst C h2 rfl k
    | 6, .long x, hok =>
      simp only [m_okS] at hok
      split at hok
      · rename_i i hd
        simp only [Bool.and_eq_true, decide_eq_true_eq] at hok
        obtain ⟨rfl, h2⟩ := hok
        exact ms_ldc2 C (m_at_mem h2 rfl) hd k
      · cases hok
    | 7, .ref q, hok =>
      simp only [m_okS] at hok
      split at hok
      · rename_i w hw
        simp only [Bool.and_eq_true, decide_eq_true_eq] at hok
        obtain ⟨rfl, h2, rfl, h4⟩ := hok
        exact ms_ldcS C hw h2 h4 k
      · cases hok
  | 1, hok, hst => by
    simp only [m_step] at hst
    split at hst
    · rename_i x hx
      cases hst
      have k := m_W0 rfl k
      simp only [m_okS, Bool.and_eq_true, Bool.or_eq_true, decide_eq_true_eq] at hok
      rcases hok with ⟨rfl, h2⟩ | ⟨rfl, h2, h3⟩
      · exact ms_iload C hx h2 k
      · exact ms_iload_n C (m_f4_v h2) hx h3 k
    · rename_i x hx
      cases hst
      have k := m_W0 rfl k
      simp only [m_okS, Bool.and_eq_true, Bool.or_eq_true, decide_eq_true_eq] at hok
      rcases hok with ⟨rfl, h2⟩ | ⟨rfl, h2, h3⟩
      · exact ms_lload C hx h2 k
      · exact ms_lload_n C (m_f4_v h2) hx h3 k
    · rename_i x hx
      cases hst
      have k := m_W0 rfl k
      simp only [m_okS, Bool.and_eq_true, Bool.or_eq_true, decide_eq_true_eq] at hok
      rcases hok with ⟨rfl, h2⟩ | ⟨rfl, h2, h3⟩
      · exact ms_aload C hx h2 k
      · exact ms_aload_n C (m_f4_v h2) hx h3 k
    · cases hst
  | 2, hok, hst => by
    simp only [m_step] at hst
    split at hst
    · split at hst
      · rename_i hb
        cases hst
        have k := m_W0 rfl k
        simp only [m_okS, Bool.and_eq_true, Bool.or_eq_true, decide_eq_true_eq] at hok
        rcases hok with ⟨rfl, h2⟩ | ⟨rfl, h2, h3⟩
        · exact ms_istore C hb h2 k
        · exact ms_istore_n C (m_f4_v h2) hb h3 k
      · cases hst
    · split at hst
      · rename_i hb
        cases hst
        have k := m_W0 rfl k
        simp only [m_okS, Bool.and_eq_true, Bool.or_eq_true, decide_eq_true_eq] at hok
        rcases hok with ⟨rfl, h2⟩ | ⟨rfl, h2, h3⟩
        · exact ms_lstore C hb h2 k
        · exact ms_lstore_n C (m_f4_v h2) hb h3 k
      · cases hst
    · split at hst
      · rename_i hb
        cases hst
        have k := m_W0 rfl k
        simp only [m_okS, Bool.and_eq_true, Bool.or_eq_true, decide_eq_true_eq] at hok
        rcases hok with ⟨rfl, h2⟩ | ⟨rfl, h2, h3⟩
        · exact ms_astore C hb h2 k
        · exact ms_astore_n C (m_f4_v h2) hb h3 k
      · cases hst
    · cases hst
  | 3, hok, hst => by
    simp only [m_step] at hst
    split at hst
    · rename_i x n hx
      cases hst
      have k := m_W0 rfl k
      simp only [m_okS, decide_eq_true_eq] at hok
      exact ms_iinc C hx (Int32.ofInt_toInt ..) hok k
    · cases hst
  | 4, hok, hst => by
    simp only [m_step] at hst
    split at hst
    · cases hst
      have k := m_W0 rfl k
      match b, hok, k with
      | 0, hok, k => exact ms_iadd C (of_decide_eq_true hok) k
      | 1, hok, k => exact ms_isub C (of_decide_eq_true hok) k
      | 2, hok, k => exact ms_imul C (of_decide_eq_true hok) k
      | 3, hok, k => exact ms_iand C (of_decide_eq_true hok) k
      | 4, hok, k => exact ms_ior C (of_decide_eq_true hok) k
      | 5, hok, k => exact ms_ixor C (of_decide_eq_true hok) k
      | 6, hok, k => exact ms_ishl C (of_decide_eq_true hok) k
      | 7, hok, k => exact ms_ishr C (of_decide_eq_true hok) k
      | n + 8, hok, k => exact ms_iushr C (of_decide_eq_true hok) k
    · cases hst
  | 5, hok, hst => by
    simp only [m_step] at hst
    split at hst
    · split at hst
      · cases hst
      · rename_i hy
        cases hst
        have k := m_W0 rfl k
        match b, hok, k with
        | 0, hok, k => exact ms_idiv C hy (of_decide_eq_true hok) k
        | n + 1, hok, k => exact ms_irem C hy (of_decide_eq_true hok) k
    · cases hst
  | 6, hok, hst => by
    simp only [m_step] at hst
    split at hst
    · cases hst
      have k := m_W0 rfl k
      match b, hok, k with
      | 0, hok, k => exact ms_ladd C (of_decide_eq_true hok) k
      | n + 1, hok, k => exact ms_lmul C (of_decide_eq_true hok) k
    · cases hst
  | 7, hok, hst => by
    simp only [m_step] at hst
    split at hst
    · cases hst
      have k := m_W0 rfl k
      exact ms_lcmp C (of_decide_eq_true hok) k
    · cases hst
  | 8, hok, hst => by
    simp only [m_step] at hst
    split at hst
    · cases hst
      have k := m_W0 rfl k
      exact ms_i2l C (of_decide_eq_true hok) k
    · cases hst
      have k := m_W0 rfl k
      exact ms_l2i C (of_decide_eq_true hok) k
    · cases hst
      have k := m_W0 rfl k
      exact ms_i2b C (of_decide_eq_true hok) k
    · cases hst
      have k := m_W0 rfl k
      exact ms_i2c C (of_decide_eq_true hok) k
    · cases hst
  | 9, hok, hst => by
    simp only [m_step] at hst
    split at hst
    · cases hst
      exact ms_dup C rfl (of_decide_eq_true hok) (m_W0 rfl k)
    · cases hst
      exact ms_dup C rfl (of_decide_eq_true hok) (m_W0 rfl k)
    · cases hst
  | 10, hok, hst => by
    simp only [m_step] at hst
    split at hst
    · cases hst
      exact ms_dup2 C rfl rfl (of_decide_eq_true hok) (m_W0 rfl k)
    · cases hst
  | 11, hok, hst => by
    simp only [m_step] at hst
    split at hst
    · cases hst
      exact ms_pop C rfl (of_decide_eq_true hok) (m_W0 rfl k)
    · cases hst
      exact ms_pop C rfl (of_decide_eq_true hok) (m_W0 rfl k)
    · cases hst
  | 12, hok, hst => by
    simp only [m_step] at hst
    simp only [m_okS] at hok
    split at hok
    · rename_i r i hc hd
      simp only [Bool.and_eq_true, decide_eq_true_eq] at hok
      split at hst
      · rename_i q r0
        split at hst
        · rename_i sh hq
          split at hst
          · rename_i hb
            obtain ⟨z1, z2⟩ := sh
            obtain ⟨e1, hB⟩ := hb
            dsimp only at e1
            subst e1
            split at hst
            · rename_i hf
              split at hst
              · rename_i x hx
                cases hst
                exact ms_getf C hc hok.1 (m_at_mem hok.2 rfl) hd hq hB (by rw [if_pos hf, hx]; rfl) (m_W0 rfl k)
              · rename_i hx
                cases hst
                exact ms_getf C hc hok.1 (m_at_mem hok.2 rfl) hd hq hB (by rw [if_pos hf, hx]; rfl) (m_W0 rfl k)
            · rename_i hf
              cases hst
              exact ms_getf C hc hok.1 (m_at_mem hok.2 rfl) hd hq hB (by rw [if_neg hf]) (m_W0 rfl k)
          · cases hst
        · cases hst
      · cases hst
    · cases hok
  | 13, hok, hst => by
    simp only [m_step] at hst
    simp only [m_okS] at hok
    split at hok
    · rename_i r i hc hd
      simp only [Bool.and_eq_true, decide_eq_true_eq] at hok
      obtain ⟨ok1, ok2, ok3⟩ := hok
      split at hst
      · split at hst
        · rename_i sh hq
          split at hst
          · rename_i hb
            obtain ⟨z1, z2⟩ := sh
            obtain ⟨e1, hB⟩ := hb
            dsimp only at e1
            subst e1
            split at hst
            · rename_i hf
              cases hst
              split at ok3 <;> try simp only [Bool.and_eq_true, Bool.or_eq_true, decide_eq_true_eq] at ok3
              · rename_i hty
                exact ms_puti C hc ok1 (m_at_mem ok2 rfl) ok3.2 hty rfl rfl hd hq hB (by rw [hf]; decide) (m_W0 rfl k)
              · exact absurd (hf.symm.trans ok3.1) (by decide)
              · exact absurd (hf.symm.trans ok3.1) (by decide)
              · exact absurd (hf.symm.trans ok3.1) (by decide)
              · cases ok3
            · rename_i hf
              split at hst
              · rename_i hx
                cases hst
                split at ok3 <;> try simp only [Bool.and_eq_true, Bool.or_eq_true, decide_eq_true_eq] at ok3
                · exact absurd (hf.symm.trans ok3.1) (by decide)
                · rename_i hty
                  exact ms_puti C hc ok1 (m_at_mem ok2 rfl) ok3.2 hty (by rcases hx with rfl | rfl <;> decide) (by rcases hx with rfl | rfl <;> decide) hd hq hB (by rw [hf]; decide) (m_W0 rfl k)
                · exact absurd (hf.symm.trans ok3.1) (by decide)
                · exact absurd (hf.symm.trans ok3.1) (by decide)
                · cases ok3
              · cases hst
            · cases hst
          · cases hst
        · cases hst
      · split at hst
        · rename_i sh hq
          split at hst
          · rename_i hb
            obtain ⟨z1, z2⟩ := sh
            obtain ⟨e1, hB, hf⟩ := hb
            dsimp only at e1
            subst e1
            cases hst
            split at ok3 <;> try simp only [Bool.and_eq_true, Bool.or_eq_true, decide_eq_true_eq] at ok3
            · exact absurd (hf.symm.trans ok3.1) (by decide)
            · exact absurd (hf.symm.trans ok3.1) (by decide)
            · rename_i hty
              exact ms_putr C hc ok1 (m_at_mem ok2 rfl) ok3.2 hty (fun _ => rfl) (fun _ => rfl) hd hq hB hf (m_W0 rfl k)
            · rename_i hty
              exact ms_putr C hc ok1 (m_at_mem ok2 rfl) ok3.2 hty (fun _ => rfl) (fun _ => rfl) hd hq hB hf (m_W0 rfl k)
            · cases ok3
          · cases hst
        · cases hst
      · cases hst
    · cases hok
  | 14, hok, hst => by
    simp only [m_step] at hst
    split at hst
    · rename_i i q r0
      split at hst
      · rename_i sh hq
        split at hst
        · rename_i hb
          obtain ⟨z1, z2⟩ := sh
          obtain ⟨e1, hB, hi⟩ := hb
          dsimp only at e1 hi
          subst e1
          match b, hok, hst, hq with
          | 0, hok, hst, hq => cases hst; exact ms_iald C (of_decide_eq_true hok) hq hB hi (m_W0 rfl k)
          | 1, hok, hst, hq => cases hst; exact ms_lald C (of_decide_eq_true hok) hq hB hi (m_W0 rfl k)
          | 2, hok, hst, hq => cases hst; exact ms_bald C (of_decide_eq_true hok) hq hB hi (m_W0 rfl k)
          | 3, hok, hst, hq => cases hst; exact ms_zald C (of_decide_eq_true hok) hq hB hi (m_W0 rfl k)
          | 4, hok, hst, hq =>
            have hst : (match mem.2.2.2 q i.toNatClampNeg with
              | some z => some (pc + 1, ls, Value.ref z :: r0, mem)
              | none => some (pc + 1, ls, Value.null :: r0, mem)) = some (pc', ls', st', mem') := hst
            split at hst
            · rename_i x hx
              cases hst
              exact ms_aald C (of_decide_eq_true hok) hq hB hi (by rw [hx]; rfl) (m_W0 rfl k)
            · rename_i hx
              cases hst
              exact ms_aald C (of_decide_eq_true hok) hq hB hi (by rw [hx]; rfl) (m_W0 rfl k)
          | n + 5, hok, hst, hq => cases hok
        · cases hst
      · cases hst
    · cases hst
  | 15, hok, hst => by
    simp only [m_step] at hst
    split at hst
    · split at hst
      · rename_i sh hq
        split at hst
        · rename_i hb
          obtain ⟨z1, z2⟩ := sh
          obtain ⟨e1, hB, hi⟩ := hb
          dsimp only at e1 hi
          subst e1
          match b, hok, hst, hq with
          | 0, hok, hst, hq => cases hst; exact ms_iast C (of_decide_eq_true hok) hq hB hi (m_W0 rfl k)
          | 1, hok, hst, hq => cases hst
          | 2, hok, hst, hq => cases hst; exact ms_bast C (of_decide_eq_true hok) hq hB hi (m_W0 rfl k)
          | 3, hok, hst, hq => cases hst; exact ms_zast C (of_decide_eq_true hok) hq hB hi (m_W0 rfl k)
          | 4, hok, hst, hq => cases hst
          | n + 5, hok, hst, hq => cases hst
        · cases hst
      · cases hst
    · split at hst
      · rename_i sh hq
        split at hst
        · rename_i hb
          obtain ⟨z1, z2⟩ := sh
          obtain ⟨e1, hB, hi, rfl⟩ := hb
          dsimp only at e1 hi
          subst e1
          cases hst
          exact ms_last C (of_decide_eq_true hok) hq hB hi (m_W0 rfl k)
        · cases hst
      · cases hst
    · split at hst
      · rename_i sh sx hq hx
        split at hst
        · rename_i hb
          obtain ⟨z1, z2⟩ := sh
          obtain ⟨y1, y2⟩ := sx
          obtain ⟨e1, hB, hBx, hi, rfl, e2⟩ := hb
          dsimp only at e1 hi e2
          subst e1
          subst e2
          cases hst
          exact ms_aast C (of_decide_eq_true hok) hq hB hx hBx hi (m_W0 rfl k)
        · cases hst
      · cases hst
    · cases hst
  | 16, hok, hst => by
    simp only [m_step] at hst
    simp only [m_okS, Bool.and_eq_true, decide_eq_true_eq] at hok
    split at hst
    · split at hst
      · rename_i sh hq
        split at hst
        · rename_i hb
          obtain ⟨z1, z2⟩ := sh
          obtain ⟨e1, hB⟩ := hb
          dsimp only at e1
          subst e1
          cases hst
          exact ms_alen C hok.2 hok.1 hq hB rfl (m_W0 rfl k)
        · cases hst
      · cases hst
    · cases hst
  | 17, hok, hst => by
    simp only [m_step] at hst
    simp only [m_okS] at hok
    split at hok
    · rename_i r i hc hd
      simp only [Bool.and_eq_true] at hok
      split at hst
      · rename_i hB
        cases hst
        have e1 : (mem.1 ++ [(b, m_nf b)]).length - mem.1.length = 1 := by simp
        have e2 : ∀ z : (Nat → Nat → Int32) × (Nat → Nat → Int64) × (Nat → Nat → Option Nat), m_sz (mem.1 ++ [(b, m_nf b)], z) - m_sz mem = m_nf b := fun z => by unfold m_sz; simp
        dsimp only at hcl k
        rw [e1] at hcl
        rw [e2] at hsl
        rw [e1, e2] at k
        exact ms_new C hc (m_at_mem hok.1 rfl) (m_at_mem hok.2.1 rfl) (m_at_mem hok.2.2 rfl) hd hB hsz hcl hsl k
      · cases hst
    · cases hok
  | 18, hok, hst => by
    simp only [m_step] at hst
    split at hst
    · rename_i n r
      split at hst
      · rename_i hb
        obtain ⟨hB, hn, hbig⟩ := hb
        cases hst
        have e1 : (mem.1 ++ [(100 + b, n.toNatClampNeg)]).length - mem.1.length = 1 := by simp
        have e2 : ∀ z : (Nat → Nat → Int32) × (Nat → Nat → Int64) × (Nat → Nat → Option Nat), m_sz (mem.1 ++ [(100 + b, n.toNatClampNeg)], z) - m_sz mem = n.toNatClampNeg := fun z => by unfold m_sz; simp
        dsimp only at hcl k
        rw [e1] at hcl
        rw [e2] at hsl
        rw [e1, e2] at k
        match b, hok, k with
        | 0, hok, k =>
          simp only [m_okS, Bool.and_eq_true, decide_eq_true_eq] at hok
          obtain ⟨rfl, h2, h3⟩ := hok
          exact ms_newa C (t := 0) (ty := .int) rfl rfl (by decide) hn rfl hbig (by decide) (m_at_mem h3 rfl) h2 rfl (fun cB => by show vp_cell cB (_, Sum.inl (va_up mem.2.1 mem.1.length (fun _ => 0) mem.1.length)) = _; rw [m_up_eq]; rfl) hB hsz hcl hsl k
        | 1, hok, k =>
          simp only [m_okS, Bool.and_eq_true, decide_eq_true_eq] at hok
          obtain ⟨rfl, h2, h3⟩ := hok
          exact ms_newa C (t := 1) (ty := .long) rfl rfl (by decide) hn rfl hbig (by decide) (m_at_mem h3 rfl) h2 rfl (fun cB => by show vp_cell cB (_, Sum.inr (Sum.inl (va_up mem.2.2.1 mem.1.length (fun _ => 0) mem.1.length))) = _; rw [m_up_eq]; rfl) hB hsz hcl hsl k
        | 2, hok, k =>
          simp only [m_okS, Bool.and_eq_true, decide_eq_true_eq] at hok
          obtain ⟨rfl, h2, h3⟩ := hok
          exact ms_newa C (t := 2) (ty := .byte) rfl rfl (by decide) hn rfl hbig (by decide) (m_at_mem h3 rfl) h2 rfl (fun cB => by show vp_cell cB (_, Sum.inl (va_up mem.2.1 mem.1.length (fun _ => 0) mem.1.length)) = _; rw [m_up_eq]; rfl) hB hsz hcl hsl k
        | 3, hok, k =>
          simp only [m_okS, Bool.and_eq_true, decide_eq_true_eq] at hok
          obtain ⟨rfl, h2, h3⟩ := hok
          exact ms_newa C (t := 3) (ty := .boolean) rfl rfl (by decide) hn rfl hbig (by decide) (m_at_mem h3 rfl) h2 rfl (fun cB => by show vp_cell cB (_, Sum.inl (va_up mem.2.1 mem.1.length (fun _ => 0) mem.1.length)) = _; rw [m_up_eq]; rfl) hB hsz hcl hsl k
        | 4, hok, k =>
          simp only [m_okS] at hok
          split at hok
          · rename_i i hd
            simp only [Bool.and_eq_true, decide_eq_true_eq] at hok
            obtain ⟨rfl, h3⟩ := hok
            exact ms_newq C hn rfl hbig (m_at_mem h3 rfl) hd hB hsz hcl hsl k
          · cases hok
        | n + 5, hok, k => cases hok
      · cases hst
    · cases hst
  | 20, hok, hst => by
    simp only [m_step] at hst
    split at hst
    · rename_i x r
      cases hst
      have k := m_W0 rfl k
      have hd := of_decide_eq_true hok
      have cut : ∀ (P : Prop) (hP : Decidable P), m_cnd b x 0 = @decide P hP → (P → m_W p l e R s m args below meth c D cA base ext nL Q d ls st' mem cells slots) ∧ (¬ P → m_W p l e R s m args below meth c D cA base ext nL Q (pc + 3) ls st' mem cells slots) := by
        intro P hP hc
        refine ⟨fun hp => ?_, fun hp => ?_⟩
        · have h1 : m_cnd b x 0 = true := by rw [hc]; exact @decide_eq_true P hP hp
          rw [h1] at k; exact k
        · have h1 : m_cnd b x 0 = false := by rw [hc]; exact @decide_eq_false P hP hp
          rw [h1] at k; exact k
      match b, hd, cut with
      | 0, hd, cut => exact ms_if_eq C hd m_off (cut (x = 0) _ rfl).1 (cut (x = 0) _ rfl).2
      | 1, hd, cut => exact ms_if_ne C hd m_off (cut (¬ x = 0) _ rfl).1 (fun h => (cut (¬ x = 0) _ rfl).2 (fun z => z h))
      | 2, hd, cut => exact ms_if_lt C hd m_off (cut (x < 0) _ rfl).1 (cut (x < 0) _ rfl).2
      | 3, hd, cut => exact ms_if_ge C hd m_off (cut (0 ≤ x) _ rfl).1 (cut (0 ≤ x) _ rfl).2
      | 4, hd, cut => exact ms_if_gt C hd m_off (cut (0 < x) _ rfl).1 (cut (0 < x) _ rfl).2
      | n + 5, hd, cut => exact ms_if_le C hd m_off (cut (x ≤ 0) _ rfl).1 (cut (x ≤ 0) _ rfl).2
    · cases hst
  | 21, hok, hst => by
    simp only [m_step] at hst
    split at hst
    · rename_i y x r
      cases hst
      have k := m_W0 rfl k
      have hd := of_decide_eq_true hok
      have cut : ∀ (P : Prop) (hP : Decidable P), m_cnd b x y = @decide P hP → (P → m_W p l e R s m args below meth c D cA base ext nL Q d ls st' mem cells slots) ∧ (¬ P → m_W p l e R s m args below meth c D cA base ext nL Q (pc + 3) ls st' mem cells slots) := by
        intro P hP hc
        refine ⟨fun hp => ?_, fun hp => ?_⟩
        · have h1 : m_cnd b x y = true := by rw [hc]; exact @decide_eq_true P hP hp
          rw [h1] at k; exact k
        · have h1 : m_cnd b x y = false := by rw [hc]; exact @decide_eq_false P hP hp
          rw [h1] at k; exact k
      match b, hd, cut with
      | 0, hd, cut => exact ms_icmp_eq C hd m_off (cut (x = y) _ rfl).1 (cut (x = y) _ rfl).2
      | 1, hd, cut => exact ms_icmp_ne C hd m_off (cut (¬ x = y) _ rfl).1 (fun h => (cut (¬ x = y) _ rfl).2 (fun z => z h))
      | 2, hd, cut => exact ms_icmp_lt C hd m_off (cut (x < y) _ rfl).1 (cut (x < y) _ rfl).2
      | 3, hd, cut => exact ms_icmp_ge C hd m_off (cut (y ≤ x) _ rfl).1 (cut (y ≤ x) _ rfl).2
      | 4, hd, cut => exact ms_icmp_gt C hd m_off (cut (y < x) _ rfl).1 (cut (y < x) _ rfl).2
      | n + 5, hd, cut => exact ms_icmp_le C hd m_off (cut (x ≤ y) _ rfl).1 (cut (x ≤ y) _ rfl).2
    · cases hst
  | 22, hok, hst => by
    cases hst
    exact ms_goto C (of_decide_eq_true hok) m_off (m_W0 rfl k)
  | 23, hok, hst => by
    simp only [m_step] at hst
    simp only [m_okS] at hok
    split at hok
    · rename_i lo0 df l0 hi offs len hd
      simp only [Bool.and_eq_true, decide_eq_true_eq] at hok
      obtain ⟨h1, h2, h3, h4⟩ := hok
      split at hst
      · rename_i x r lo1 hv
        cases hv
        subst h1
        split at hst
        · rename_i hout
          cases hst
          exact ms_tabOut C hd (by rcases hout with z | z; exact Or.inl z; exact Or.inr (by omega)) (by rw [h4]; exact m_off) (m_W0 rfl k)
        · rename_i hout
          split at hst
          · rename_i t ht
            cases hst
            have z1 : ¬ x.toInt < lo0.toInt := fun z => hout (Or.inl z)
            have z2 : ¬ hi < x.toInt := fun z => hout (Or.inr (by omega))
            refine ms_tabIn C hd z1 z2 (off := (pc' : Int) - (pc : Int)) ?_ m_off (m_W0 rfl k)
            rw [← Array.getElem?_toList, h3, List.getElem?_map, ht]
            rfl
          · cases hst
      · cases hst
    · cases hok
  | 24, hok, hst => by
    simp only [m_step] at hst
    simp only [m_okS] at hok
    split at hok
    · rename_i i hd
      simp only [Bool.and_eq_true, decide_eq_true_eq] at hok
      split at hst
      · split at hst
        · rename_i h8
          cases hst
          exact ms_objInit C (m_at_mem hok.2.2 rfl) m_oi1 m_oi2 hd (Nat.le_trans hok.1 hfr) (Nat.le_trans hok.2.1 hlo) h8 (m_W0 rfl k)
        · cases hst
      · cases hst
    · cases hok
  | 25, hok, hst => by
    simp only [m_step] at hst
    simp only [m_okS, Bool.and_eq_true, decide_eq_true_eq] at hok
    obtain ⟨w, x1, x2, x3, x4⟩ := hX hok.1
    split at hst
    · split at hst
      · rename_i hq
        subst hq
        cases hst
        exact ms_slen C x1 x2 x3 x4 hok.2 (m_W0 rfl k)
      · cases hst
    · cases hst
  | 26, hok, hst => by
    simp only [m_step] at hst
    simp only [m_okS, Bool.and_eq_true, decide_eq_true_eq] at hok
    obtain ⟨w, x1, x2, x3, x4⟩ := hX hok.1
    split at hst
    · split at hst
      · rename_i hq
        obtain ⟨rfl, hi⟩ := hq
        cases hst
        exact ms_sld C x1 x2 x3 x4 hi hok.2 (m_W0 rfl k)
      · cases hst
    · cases hst
  | 33, hok, hst => by
    simp only [m_step] at hst
    simp only [m_okS] at hok
    split at hok
    · rename_i i hd
      split at hst
      · split at hst
        · rename_i hb
          cases hst
          exact ms_sval C hb.1 hb.2 (m_at_mem hok rfl) hd (m_W0 rfl k)
        · cases hst
      · cases hst
    · cases hok
  | 34, hok, hst => by
    simp only [m_step] at hst
    simp only [m_okS] at hok
    split at hok
    · rename_i i hd
      split at hst
      · split at hst
        · rename_i hb
          cases hst
          exact ms_scod C hb.1 hb.2 (m_at_mem hok rfl) hd (m_W0 rfl k)
        · cases hst
      · cases hst
    · cases hok
  | 35, hok, hst => by
    cases hst
    simp only [m_okS] at hok
    split at hok
    · rename_i i hd
      exact ms_gcmp C (m_at_mem hok rfl) hd (m_W0 rfl k)
    · cases hok
  | 36, hok, hst => by
    cases hst
    simp only [m_okS] at hok
    split at hok
    · rename_i i hd
      exact ms_gfm C (m_at_mem hok rfl) hd (m_W0 rfl k)
    · cases hok
  | 38, hok, hst => by
    simp only [m_step] at hst
    split at hst
    · split at hst
      · rename_i hb
        cases hst
        exact ms_xlen C hb.1 hb.2 (of_decide_eq_true hok) (m_W0 rfl k)
      · cases hst
    · cases hst
  | 39, hok, hst => by
    simp only [m_step] at hst
    split at hst
    · split at hst
      · rename_i hb
        cases hst
        exact ms_xbld C hb.1 hb.2.1 (m_in_vp hb.2.2) (of_decide_eq_true hok) (m_W0 rfl k)
      · cases hst
    · cases hst
  | 40, hok, hst => by
    simp only [m_step] at hst
    simp only [m_okS] at hok
    split at hok
    · rename_i i hd
      simp only [Bool.and_eq_true, decide_eq_true_eq] at hok
      obtain ⟨⟨w1, w2⟩, w3, w4, w5, w6⟩ := hok
      split at hst
      · split at hst
        · rename_i h8
          cases hst
          exact ms_max C (m_at_mem w3 rfl) (m_at_mem w4 rfl) (m_at_mem w5 rfl) (m_at_mem w6 rfl) hd (Nat.le_trans w1 hfr) (Nat.le_trans w2 hlo) h8 (by omega) (by omega) (m_W0 rfl k)
        · cases hst
      · cases hst
    · cases hok
  | 41, hok, hst => by
    simp only [m_step] at hst
    simp only [m_okS] at hok
    split at hok
    · rename_i i hd
      simp only [Bool.and_eq_true, decide_eq_true_eq] at hok
      obtain ⟨⟨w1, w2⟩, w3, w4, w5, w6⟩ := hok
      split at hst
      · split at hst
        · rename_i h8
          cases hst
          exact ms_min C (m_at_mem w3 rfl) (m_at_mem w4 rfl) (m_at_mem w5 rfl) (m_at_mem w6 rfl) hd (Nat.le_trans w1 hfr) (Nat.le_trans w2 hlo) h8 (by omega) (by omega) (m_W0 rfl k)
        · cases hst
      · cases hst
    · cases hok
  | 19, hok, hst => by cases hok
  | 27, hok, hst => by cases hok
  | 28, hok, hst => by cases hok
  | 29, hok, hst => by cases hok
  | 30, hok, hst => by cases hok
  | 31, hok, hst => by cases hok
  | 32, hok, hst => by cases hok
  | 37, hok, hst => by cases hok
  | n + 42, hok, hst => by cases hok
end MS
