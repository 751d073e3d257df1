/-! ===== the whole machine is sound ===== -/
def m_okC (own : String) (cc : ByteArray) (fr lo : Nat) (TT : List mE) (j n : Nat) (ts : List Nat) (pc : Nat) : Bool := match TT[j]? with
  | none => false
  | some (y, code, nL, ret, frj, loj, _) => decide (frj + 1 ≤ fr ∧ 8 + (nL + 11) + loj ≤ lo) && (decide (y.cls ≠ "java/lang/invoke/MethodHandle" ∧ y.cls ≠ "java/lang/invoke/VarHandle" ∧ y.cls ≠ RL) && (m_at (ts.getD 1 0) (.code y code nL ret) && (m_at (ts.getD 2 0) (.initialized y.cls) && (match ts.getD 0 9, decode cc pc with
    | 0, .ok (.invokestatic i, 3) => m_at (ts.getD 3 0) (.methodLink own i y) && (m_at (ts.getD 4 0) (.static y) && decide ((parseMethodDescriptor y.desc).map (fun q => q.parameters.length) = some n))
    | 1, .ok (.invokestatic i, 3) => m_at (ts.getD 3 0) (.methodLinkNest own i y RX10) && (m_at (ts.getD 4 0) (.static y) && decide ((parseMethodDescriptor y.desc).map (fun q => q.parameters.length) = some n))
    | 2, .ok (.invokevirtual i, 3) => m_at (ts.getD 3 0) (.methodLink own i y) && (m_at (ts.getD 4 0) (.instanceMethod y) && (m_at (ts.getD 5 0) (.selects y.cls y y) && (decide ((parseMethodDescriptor y.desc).map (fun q => q.parameters.length + 1) = some n) && decide ((mCL[ts.getD 6 99]?).map (fun q => q.1) = some y.cls))))
    | 3, .ok (.invokevirtual i, 3) => m_at (ts.getD 3 0) (.methodLinkNest own i y RX10) && (m_at (ts.getD 4 0) (.instanceMethod y) && (m_at (ts.getD 5 0) (.selects y.cls y y) && (decide ((parseMethodDescriptor y.desc).map (fun q => q.parameters.length + 1) = some n) && decide ((mCL[ts.getD 6 99]?).map (fun q => q.1) = some y.cls))))
    | 4, .ok (.invokespecial i, 3) => m_at (ts.getD 3 0) (.methodLink own i y) && (m_at (ts.getD 4 0) (.instanceMethod y) && (decide (y.name = "<init>" ∧ ret = none) && decide ((parseMethodDescriptor y.desc).map (fun q => q.parameters.length + 1) = some n)))
    | 5, .ok (.invokespecial i, 3) => m_at (ts.getD 3 0) (.methodLinkNest own i y RX10) && (m_at (ts.getD 4 0) (.instanceMethod y) && (decide (y.name = "<init>" ∧ ret = none) && decide ((parseMethodDescriptor y.desc).map (fun q => q.parameters.length + 1) = some n)))
    | 6, .ok (.invokevirtual i, 3) => m_at (ts.getD 3 0) (.methodLink own i y) && (m_at (ts.getD 4 0) (.instanceMethod y) && (m_at (ts.getD 5 0) (.selects y.cls y y) && (decide ((parseMethodDescriptor y.desc).map (fun q => q.parameters.length + 1) = some n) && decide (y.cls = "java/lang/String"))))
    | _, _ => false))))
def m_okI (own nm : String) (cc : ByteArray) (ret : Option FieldType) (fr lo : Nat) (TT : List mE) (pc : Nat) (o : mO) : Bool :=
  if o.1 = 90 then decide (decode cc pc = .ok (.ireturn, 1)) && (match o.2.2.1 with
    | 0 => decide (ret = some .int)
    | 1 => decide (ret = some .boolean)
    | 2 => decide (ret = some .byte)
    | _ => decide (ret = some .char))
  else if o.1 = 91 then decide (decode cc pc = .ok (.return_, 1)) && decide (ret = none)
  else if o.1 = 92 then decide (decode cc pc = .ok (.lreturn, 1)) && decide (ret = some .long)
  else if o.1 = 93 then decide (decode cc pc = .ok (.areturn, 1)) && (match ret with
    | some (.object _) => true
    | _ => false)
  else if o.1 = 80 then m_okC own cc fr lo TT o.2.1 o.2.2.1 o.2.2.2.2.2 pc
  else m_okS own nm cc fr lo o.1 o.2.1 o.2.2.1 o.2.2.2.1 o.2.2.2.2.1 o.2.2.2.2.2 pc
def m_okE (TT : List mE) (E : mE) : Bool := plainName E.1.cls && E.2.2.2.2.2.2.all fun x => m_okI E.1.cls E.1.name E.2.1 E.2.2.2.1 E.2.2.2.2.1 E.2.2.2.2.2.1 TT x.1 x.2
theorem m_lookup {pg : List (Nat × mO)} {pc : Nat} {o : mO} (h : pg.lookup pc = some o) : (pc, o) ∈ pg := by
  induction pg with
  | nil => cases h
  | cons a r ih =>
    rw [List.lookup_cons] at h
    by_cases e : pc == a.1
    · simp only [e] at h
      have e2 : pc = a.1 := eq_of_beq e
      cases h
      rw [e2]
      exact List.mem_cons_self
    · simp only [e] at h
      exact List.mem_cons_of_mem _ (ih h)
/-- what is made stays -/
theorem m_step_mono {fm : Value} {L : Nat} {xs : Nat → Int32} {op a b d : Nat} {v : Value} {ts : List Nat} {pc pc' : Nat} {ls st ls' st' : List Value} {mem mem' : mM} (h : m_step fm L xs op a b d v ts pc ls st mem = some (pc', ls', st', mem')) : mem'.1 = mem.1 ∨ ∃ z, mem'.1 = mem.1 ++ [z] := by
  unfold m_step at h
  repeat' split at h
  all_goals first | (cases h; exact Or.inl rfl) | (cases h; exact Or.inr ⟨_, rfl⟩) | cases h
theorem m_mono_le {mem mem' : mM} (h : mem'.1 = mem.1 ∨ ∃ z, mem'.1 = mem.1 ++ [z]) : mem.1.length ≤ mem'.1.length ∧ m_sz mem ≤ m_sz mem' := by
  unfold m_sz
  rcases h with h | ⟨z, h⟩ <;> rw [h] <;> simp
/-- what one instruction may be -/
theorem m_one_inv {TT : List mE} {fm : Value} {L : Nat} {xs : Nat → Int32} {rec : List (Nat × mO) → Nat → List Value → List Value → mM → Option (Value × mM)} {pg : List (Nat × mO)} {pc : Nat} {ls st : List Value} {mem : mM} {r : Value} {mem' : mM} (h : m_one TT fm L xs rec pg pc ls st mem = some (r, mem')) :
    ∃ (op a b d : Nat) (v : Value) (ts : List Nat), pg.lookup pc = some (op, a, b, d, v, ts) ∧ ((op = 90 ∧ ∃ z, st = [.int z] ∧ m_nr b z = true ∧ r = .int z ∧ mem' = mem) ∨ (op = 91 ∧ st = [] ∧ r = mU ∧ mem' = mem) ∨ (op = 92 ∧ ∃ z, st = [.long z] ∧ r = .long z ∧ mem' = mem) ∨ (op = 93 ∧ ∃ z, st = [.ref z] ∧ r = .ref z ∧ mem' = mem) ∨
      (op = 80 ∧ ∃ (y : MethodName) (code : ByteArray) (nL : Nat) (ret : Option FieldType) (frj loj : Nat) (pg' : List (Nat × mO)) (r1 : Value) (mem1 : mM), TT[a]? = some (y, code, nL, ret, frj, loj, pg') ∧ b ≤ st.length ∧ ((st.drop b).map fun v => v.category).sum ≤ 8 ∧ (m_ent (st.take b).reverse).length ≤ nL ∧ m_rcv (ts.getD 0 9) (ts.getD 6 99) (st.take b).reverse mem = true ∧ rec pg' 0 (m_entry (st.take b).reverse nL) [] mem = some (r1, mem1) ∧ rec pg (pc + 3) ls (m_rst r1 ++ st.drop b) mem1 = some (r, mem')) ∨
      ((op ≠ 90 ∧ op ≠ 91 ∧ op ≠ 92 ∧ op ≠ 93 ∧ op ≠ 80) ∧ ∃ (pc' : Nat) (ls' st' : List Value) (mem1 : mM), m_step fm L xs op a b d v ts pc ls st mem = some (pc', ls', st', mem1) ∧ rec pg pc' ls' st' mem1 = some (r, mem'))) := by
  unfold m_one at h
  split at h
  · cases h
  rename_i op a b d v ts hl
  refine ⟨op, a, b, d, v, ts, hl, ?_⟩
  by_cases h90 : op = 90
  · rw [if_pos h90] at h
    split at h
    · split at h
      · rename_i hz
        cases h
        exact Or.inl ⟨h90, _, rfl, hz, rfl, rfl⟩
      · cases h
    · cases h
  rw [if_neg h90] at h
  by_cases h91 : op = 91
  · rw [if_pos h91] at h
    split at h
    · cases h
      exact Or.inr (Or.inl ⟨h91, rfl, rfl, rfl⟩)
    · cases h
  rw [if_neg h91] at h
  by_cases h92 : op = 92
  · rw [if_pos h92] at h
    split at h
    · cases h
      exact Or.inr (Or.inr (Or.inl ⟨h92, _, rfl, rfl, rfl⟩))
    · cases h
  rw [if_neg h92] at h
  by_cases h93 : op = 93
  · rw [if_pos h93] at h
    split at h
    · cases h
      exact Or.inr (Or.inr (Or.inr (Or.inl ⟨h93, _, rfl, rfl, rfl⟩)))
    · cases h
  rw [if_neg h93] at h
  by_cases h80 : op = 80
  · rw [if_pos h80] at h
    split at h
    · cases h
    · rename_i y code nL ret frj loj pg' hj
      split at h
      · rename_i hb
        split at h
        · cases h
        · rename_i r1 mem1 hr
          exact Or.inr (Or.inr (Or.inr (Or.inr (Or.inl ⟨h80, y, code, nL, ret, frj, loj, pg', r1, mem1, hj, hb.1, hb.2.1, hb.2.2.1, hb.2.2.2, hr, h⟩))))
      · cases h
  rw [if_neg h80] at h
  split at h
  · cases h
  · rename_i pc' ls' st' mem1 hs
    exact Or.inr (Or.inr (Or.inr (Or.inr (Or.inr ⟨⟨h90, h91, h92, h93, h80⟩, pc', ls', st', mem1, hs, h⟩))))
theorem m_exec_mono {TT : List mE} {fm : Value} {L : Nat} {xs : Nat → Int32} : ∀ (n : Nat) (pg : List (Nat × mO)) (pc : Nat) (ls st : List Value) (mem : mM) (r : Value) (mem' : mM), m_exec TT fm L xs n pg pc ls st mem = some (r, mem') → mem.1.length ≤ mem'.1.length ∧ m_sz mem ≤ m_sz mem' := by
  intro n
  induction n with
  | zero => intro pg pc ls st mem r mem' h; cases h
  | succ n ih =>
    intro pg pc ls st mem r mem' h
    obtain ⟨op, a, b, d, v, ts, -, h | h | h | h | h | h⟩ := m_one_inv (show m_one TT fm L xs (m_exec TT fm L xs n) pg pc ls st mem = some (r, mem') from h)
    · obtain ⟨-, z, -, -, -, rfl⟩ := h; exact ⟨Nat.le_refl _, Nat.le_refl _⟩
    · obtain ⟨-, -, -, rfl⟩ := h; exact ⟨Nat.le_refl _, Nat.le_refl _⟩
    · obtain ⟨-, z, -, -, rfl⟩ := h; exact ⟨Nat.le_refl _, Nat.le_refl _⟩
    · obtain ⟨-, z, -, -, rfl⟩ := h; exact ⟨Nat.le_refl _, Nat.le_refl _⟩
    · obtain ⟨-, y, code, nL, ret, frj, loj, pg', r1, mem1, -, -, -, -, -, h1, h2⟩ := h
      have e1 := ih _ _ _ _ _ _ _ h1
      have e2 := ih _ _ _ _ _ _ _ h2
      exact ⟨Nat.le_trans e1.1 e2.1, Nat.le_trans e1.2 e2.2⟩
    · obtain ⟨-, pc', ls', st', mem1, h1, h2⟩ := h
      have e1 := m_mono_le (m_step_mono h1)
      have e2 := ih _ _ _ _ _ _ _ h2
      exact ⟨Nat.le_trans e1.1 e2.1, Nat.le_trans e1.2 e2.2⟩
/-- what a method returns -/
def m_ret (base : Nat) (ext : Nat → Nat) (r : Value) : Option Value := match r with
  | .retAddr _ => none
  | v => some (m_tr base ext v)
theorem m_ret_list {base : Nat} {ext : Nat → Nat} (r : Value) : (m_ret base ext r).toList = (m_rst r).map (m_tr base ext) := by cases r <;> rfl
def m_RetOk (cc : ByteArray) (ret : Option FieldType) (pc : Nat) (r : Value) : Prop :=
  (r = mU ∧ decode cc pc = .ok (.return_, 1) ∧ ret = none) ∨ (∃ (z : Int32) (ty : FieldType), r = .int z ∧ decode cc pc = .ok (.ireturn, 1) ∧ ret = some ty ∧ narrow ty (.int z) = .int z) ∨ (∃ z : Int64, r = .long z ∧ decode cc pc = .ok (.lreturn, 1) ∧ ret = some .long) ∨ ∃ (z : Nat) (cn : String), r = .ref z ∧ decode cc pc = .ok (.areturn, 1) ∧ ret = some (.object cn)
def m_Pc (D : va_G) (cA : Nat → ClassId) (base : Nat) (ext : Nat → Nat) (fm : Value) (As : List Value) (mem : mM) : Array Value → State → Prop := va_Pc (As.map (m_tr base ext)) (fun U => U.heap.size = base + mem.1.length ∧ m_V D cA base ext mem U.heap ∧ m_Env D cA base ext fm U U.heap)
def m_Qc (D : va_G) (cA : Nat → ClassId) (base : Nat) (ext : Nat → Nat) (r : Value) (mem : mM) : Array Value → State → Outcome → State → Prop := fun _ st o t => o = .returned (m_ret base ext r) ∧ m_V D cA base ext mem t.heap ∧ va_F (m_A base) st t
theorem m_Pc_blind {D : va_G} {cA : Nat → ClassId} {base : Nat} {ext : Nat → Nat} {fm : Value} {As : List Value} {mem : mM} : FrameBlind (m_Pc D cA base ext fm As mem) := by
  intro a U g mk q
  obtain ⟨q0, q1, q2, q3⟩ := q
  exact ⟨q0, q1, q2, m_Env.blind (U := U) (U' := U.calling g mk a) rfl rfl q3⟩
def m_Snd (l : Launch) (D : va_G) (cA : Nat → ClassId) (base : Nat) (ext : Nat → Nat) (fm : Value) (TT : List mE) (L : Nat) (xs : Nat → Int32) (n : Nat) : Prop :=
  ∀ (p : Program) (e : Env) (R : Room) (s : State) (m : MethodId) (args : Array Value) (below : List Frame) (meth : Method) (c : Code) (cells slots : Nat) (Q : State → Prop) (own nm : String) (cc : ByteArray) (nL fr lo : Nat) (ret : Option FieldType) (pg : List (Nat × mO)) (pc : Nat) (ls st : List Value) (mem : mM) (r : Value) (mem' : mM),
    m_C p s m c args meth own nm cc nL D cA base ext fm → (pg.all fun x => m_okI own nm cc ret fr lo TT x.1 x.2) = true → (own = RL → ∃ w, va_X w L xs s s.heap ∧ w < s.heap.size ∧ ¬ m_A base w ∧ m_ad base ext (mBIG + 100) = w) → fr ≤ R.frames → lo ≤ R.locals → s.heap.size + cells = base + mem.1.length → cells + (mem'.1.length - mem.1.length) ≤ R.cells → slots + (m_sz mem' - m_sz mem) ≤ R.slots →
    m_exec TT fm L xs n pg pc ls st mem = some (r, mem') →
    (∀ (pc2 : Nat) (ls2 : List Value), m_RetOk cc ret pc2 r → m_W p l e R s m args below meth c D cA base ext nL Q pc2 ls2 (m_rst r) mem' (cells + (mem'.1.length - mem.1.length)) (slots + (m_sz mem' - m_sz mem))) → m_W p l e R s m args below meth c D cA base ext nL Q pc ls st mem cells slots
/-- a method's contract -/
theorem m_met {l : Launch} {D : va_G} {cA : Nat → ClassId} {base : Nat} {ext : Nat → Nat} {fm : Value} {TT : List mE} {L : Nat} {xs : Nat → Int32} {n : Nat} (hS : m_Snd l D cA base ext fm TT L xs n) {y : MethodName} {cc : ByteArray} {nL fr lo : Nat} {ret : Option FieldType} {pg : List (Nat × mO)} (hE : m_okE TT (y, cc, nL, ret, fr, lo, pg) = true) (hRL : y.cls ≠ RL) {As : List Value} (hAs : (m_ent As).length ≤ nL) {mem mem' : mM} {r : Value} (hx : m_exec TT fm L xs n pg 0 (m_entry As nL) [] mem = some (r, mem')) :
    Met l y (.code y cc nL ret :: mG) { frames := fr, cells := mem'.1.length - mem.1.length, slots := m_sz mem' - m_sz mem, locals := lo } (m_Pc D cA base ext fm As mem) (m_Qc D cA base ext r mem') (mem'.1.length - mem.1.length) (m_sz mem' - m_sz mem) (m_A base) := by
  unfold m_okE at hE
  simp only [Bool.and_eq_true] at hE
  refine Met.ofW (cc := cc) (maxL := nL) (ret := ret) hE.1 rfl ?_
  intro p e s m args below meth c s₁ B hml hv
  obtain ⟨rfl, hsz, hV, hEnv⟩ := hv
  have hts := atoms_spec (ws := .code y cc nL ret :: mG) B.pre
  have hown : s.vm.findClass y.cls = some m.cls := findClass_of_methodNamed B.named
  have hlocks := B.notSynchronized
  have hr := B.returns
  have C : m_C p s m c (As.map (m_tr base ext)).toArray meth y.cls y.name cc nL D cA base ext fm := ⟨B.exec, B.bytes, hml, hown, fun w hw => hts w (List.mem_cons_of_mem _ hw), hEnv, by omega, (name_of_methodNamed B.named B.method).1, hlocks⟩
  rw [lg_entry_eq]
  have hx0 := B.exec
  have hb0 := B.bytes
  refine hS p e _ s m _ below meth c 0 0 _ y.cls y.name cc nL fr lo ret pg 0 _ [] mem r mem' C hE.2 (fun z => absurd z hRL) (Nat.le_refl _) (Nat.le_refl _) (by omega) (by rw [Nat.zero_add]; exact Nat.le_refl _) (by rw [Nat.zero_add]; exact Nat.le_refl _) hx (fun pc2 ls2 hro => ?_) s.heap [] _ (m_L.entry hAs) hV va_S.rf
  rw [Nat.zero_add, Nat.zero_add]
  intro H locs rl hl hV' hS'
  have fin : ∀ t : State, t.heap = H → s.WarmedH t.vm → m_Qc D cA base ext r mem' (As.map (m_tr base ext)).toArray s (.returned (m_ret base ext r)) t := fun t ht _ => ⟨rfl, by rw [ht]; exact hV', hS'.F ht⟩
  rcases hro with ⟨rfl, hd, rfl⟩ | ⟨z, ty, rfl, hd, rfl, hn⟩ | ⟨z, rfl, hd, rfl⟩ | ⟨z, cn, rfl, hd, rfl⟩
  · exact W.vret hx0 hb0 hr fin hS'.2.2 hd
  · exact W.zret hx0 hb0 hr hn fin hS'.2.2 hd
  · exact W.lret hx0 hb0 hr fin hS'.2.2 hd
  · exact W.aret hx0 hb0 hr (Or.inl ⟨cn, rfl⟩) (Or.inr ⟨_, rfl⟩) fin hS'.2.2 hd
theorem m_good {y : MethodName} {cc : ByteArray} {nL : Nat} {ret : Option FieldType} (h : Cond.code y cc nL ret ∈ mG) : GoodIn mG (.code y cc nL ret :: mG) := by
  intro w hw
  rcases List.mem_cons.mp hw with rfl | hw
  · exact ⟨h, good_of_word (List.mem_filter.mp h).2⟩
  · exact ⟨hw, good_of_word (List.mem_filter.mp hw).2⟩
theorem m_par {y : MethodName} {b : Nat} (h : (parseMethodDescriptor y.desc).map (fun q => q.parameters.length + 1) = some b) : (parseMethodDescriptor y.desc).map (fun q => q.parameters.length) = some (b - 1) := by
  cases hz : parseMethodDescriptor y.desc with
  | none => rw [hz] at h; cases h
  | some q =>
    rw [hz] at h
    have h2 : q.parameters.length + 1 = b := Option.some.inj h
    show some q.parameters.length = some (b - 1)
    rw [← h2, Nat.add_sub_cancel]
theorem m_rcv_obj {k ci : Nat} {As : List Value} {mem : mM} (hk : k = 2 ∨ k = 3) (h : m_rcv k ci As mem = true) : ∃ (q : Nat) (As' : List Value), As = .ref q :: As' ∧ q < mBIG ∧ ∃ sh, mem.1[q]? = some sh ∧ sh.1 = ci := by
  have h2 : m_rcv 2 ci As mem = true := by rcases hk with rfl | rfl <;> exact h
  cases As with
  | nil => cases h2
  | cons a As' =>
    cases a with
    | ref q =>
      have h3 : (decide (q < mBIG) && (match mem.1[q]? with
        | some sh => decide (sh.1 = ci)
        | none => false)) = true := h2
      simp only [Bool.and_eq_true, decide_eq_true_eq] at h3
      obtain ⟨h3, h4⟩ := h3
      split at h4
      · rename_i sh hs
        exact ⟨q, As', rfl, h3, sh, hs, of_decide_eq_true h4⟩
      · cases h4
    | _ => cases h2
theorem m_rcv_any {k ci : Nat} {As : List Value} {mem : mM} (hk : k = 4 ∨ k = 5) (h : m_rcv k ci As mem = true) : ∃ (q : Nat) (As' : List Value), As = .ref q :: As' := by
  have h2 : m_rcv 4 ci As mem = true := by rcases hk with rfl | rfl <;> exact h
  cases As with
  | nil => cases h2
  | cons a As' =>
    cases a with
    | ref q => exact ⟨q, As', rfl⟩
    | _ => cases h2
theorem m_rcv_str {ci : Nat} {As : List Value} {mem : mM} (h : m_rcv 6 ci As mem = true) : ∃ (q : Nat) (As' : List Value), As = .ref q :: As' ∧ mBIG ≤ q ∧ q < mBIG + 9 := by
  cases As with
  | nil => cases h
  | cons a As' =>
    cases a with
    | ref q =>
      have h3 : (decide (mBIG ≤ q) && decide (q < mBIG + 9)) = true := h
      simp only [Bool.and_eq_true, decide_eq_true_eq] at h3
      exact ⟨q, As', rfl, h3.1, h3.2⟩
    | _ => cases h
theorem m_nest_in {k : Nat} {own : String} {i : Nat} {y : MethodName} {h : String} (hk : m_at k (.methodLinkNest own i y h) = true) : Cond.methodLinkNest own i y h ∈ m_nest := List.mem_filter.mpr ⟨List.mem_of_getElem? (of_decide_eq_true hk), rfl⟩
section MX
variable {p : Program} {l : Launch} {e : Env} {R : Room} {s : State} {m : MethodId} {args : Array Value} {below : List Frame} {meth : Method} {c : Code} {cells slots : Nat} {Q : State → Prop}
variable {own nm : String} {cc : ByteArray} {nL : Nat} {D : va_G} {cA : Nat → ClassId} {base : Nat} {ext : Nat → Nat} {fm : Value} {pc : Nat} {ls st : List Value} {mem : mM}
theorem m_callR {H : Heap} {locs : List Loc} {mc ms : Nat} {rl : Array Slot} {st0 rest : List Value} {r : Value} {mem1 : mM} {a : Array Value} (hr : va_Run p l e R s m args below meth c H locs cells slots mc ms (F0 m pc rl st0) rest (m_Qc D cA base ext r mem1 a) (m_A base)) (hS : va_S (m_A base) s.heap H locs)
    (kk : ∀ (H1 : Heap) (locs1 : List Loc), m_V D cA base ext mem1 H1 → va_S (m_A base) s.heap H1 locs1 → W p l e R s m args below meth c H1 locs1 (cells + mc) (slots + ms) Q (F0 m (pc + 3) rl ((m_ret base ext r).toList ++ rest))) : W p l e R s m args below meth c H locs cells slots Q (F0 m pc rl st0) := by
  intro T hT X
  obtain ⟨v, st₀, t, T', L, h0, X', hL, e1, e2, ⟨hv, hV, hz, hk⟩, stp⟩ := hr T hT X
  have hv2 : v = m_ret base ext r := Outcome.returned.inj hv
  subst hv2
  rw [h0] at hz hk
  obtain ⟨t2, a1, b1⟩ := kk T'.heap (locs ++ L) (by rw [e1]; exact hV) ⟨Nat.le_trans hS.1 (by rw [e1]; exact hz), fun q h1 h2 => by rw [e1, hk q (Nat.lt_of_lt_of_le h1 hS.1) h2]; exact hS.2.1 q h1 h2, fun q hq => by
      rcases List.mem_append.mp hq with h | h
      · exact hS.2.2 q h
      · exact hL q h⟩ T' rfl X'
  exact ⟨t2, stp t2 a1, b1⟩
/-- one call -/
theorem ms_call {TT : List mE} {L : Nat} {xs : Nat → Int32} {n fr lo j b : Nat} {ts : List Nat} {y : MethodName} {code : ByteArray} {nL' frj loj : Nat} {ret : Option FieldType} {pg : List (Nat × mO)} {r : Value} {mem1 : mM} (C : m_C p s m c args meth own nm cc nL D cA base ext fm) (hSn : m_Snd l D cA base ext fm TT L xs n) (hTT : ∀ E ∈ TT, m_okE TT E = true) (hfr : fr ≤ R.frames) (hlo : lo ≤ R.locals) (hok : m_okC own cc fr lo TT j b ts pc = true) (hj : TT[j]? = some (y, code, nL', ret, frj, loj, pg)) (hb1 : b ≤ st.length) (hb2 : ((st.drop b).map fun v => v.category).sum ≤ 8) (hb3 : (m_ent (st.take b).reverse).length ≤ nL') (hb4 : m_rcv (ts.getD 0 9) (ts.getD 6 99) (st.take b).reverse mem = true) (hx : m_exec TT fm L xs n pg 0 (m_entry (st.take b).reverse nL') [] mem = some (r, mem1)) (hsz : s.heap.size + cells = base + mem.1.length) (hcl : cells + (mem1.1.length - mem.1.length) ≤ R.cells) (hsl : slots + (m_sz mem1 - m_sz mem) ≤ R.slots)
    (k : m_W p l e R s m args below meth c D cA base ext nL Q (pc + 3) ls (m_rst r ++ st.drop b) mem1 (cells + (mem1.1.length - mem.1.length)) (slots + (m_sz mem1 - m_sz mem))) : m_W p l e R s m args below meth c D cA base ext nL Q pc ls st mem cells slots := by
  intro H locs rl hl hV hS
  refine W_sized fun hzz => ?_
  have hH : H.size = base + mem.1.length := by
    apply Nat.le_antisymm (by omega)
    cases hm : mem.1.length with
    | zero => exact Nat.le_trans C.2.2.2.2.2.2.1 hS.1
    | succ z =>
      obtain ⟨sh, hsh⟩ : ∃ sh, mem.1[z]? = some sh := ⟨_, List.getElem?_eq_getElem (by omega)⟩
      have := (hV z _ (m_ws_get hsh)).lt
      dsimp only at this
      omega
  unfold m_okC at hok
  rw [hj] at hok
  simp only [Bool.and_eq_true, decide_eq_true_eq] at hok
  obtain ⟨⟨ok1, ok2⟩, ⟨ok3, ok4, ok5⟩, ok6, ok7, ok9⟩ := hok
  have hcode : Cond.code y code nL' ret ∈ mG := m_at_mem ok6 rfl
  have hini : (Cond.initialized y.cls).before args s = true := C.2.2.2.2.1 _ (m_at_mem ok7 rfl)
  have hM := m_met hSn (hTT _ (List.mem_of_getElem? hj)) ok5 hb3 hx
  have S : CallFix p m c cc nL s args mG own := ⟨C.1, C.2.1, C.2.2.1, C.2.2.2.1, C.2.2.2.2.1⟩
  have hPc : ∀ U : State, U.heap = H → s.WarmedH U.vm → m_Pc D cA base ext fm (st.take b).reverse mem ((st.take b).reverse.map (m_tr base ext)).toArray U := fun U hU hW => ⟨rfl, by rw [hU]; exact hH, by rw [hU]; exact hV, C.2.2.2.2.2.1.go hW (by rw [hU]; exact hS)⟩
  have hRm : frj + 1 ≤ R.frames ∧ 8 + (nL' + 11) + loj ≤ R.locals := ⟨Nat.le_trans ok1 hfr, Nat.le_trans ok2 hlo⟩
  have hWd : 2 * (F0 m pc rl (st.map (m_tr base ext))).monitorRoom + (((st.drop b).map (m_tr base ext)).map fun v => v.category).sum ≤ 8 := by
    rw [m_cats]
    show 2 * 0 + _ ≤ 8
    omega
  have hlen : ((st.take b).reverse.map (m_tr base ext)).length = b := by simp; omega
  have hstk : st.map (m_tr base ext) = ((st.take b).reverse.map (m_tr base ext)).reverse ++ (st.drop b).map (m_tr base ext) := by
    rw [← List.map_reverse, List.reverse_reverse, ← List.map_append, List.take_append_drop]
  have fin : ∀ (H1 : Heap) (locs1 : List Loc), m_V D cA base ext mem1 H1 → va_S (m_A base) s.heap H1 locs1 → W p l e R s m args below meth c H1 locs1 (cells + (mem1.1.length - mem.1.length)) (slots + (m_sz mem1 - m_sz mem)) Q (F0 m (pc + 3) rl ((m_ret base ext r).toList ++ (st.drop b).map (m_tr base ext))) := by
    intro H1 locs1 hV1 hS1
    have k1 := k H1 locs1 rl hl hV1 hS1
    rw [List.map_append, ← m_ret_list] at k1
    exact k1
  have hrl : rl.size = nL := hl.2.1
  split at ok9
  · rename_i i hd
    simp only [Bool.and_eq_true, decide_eq_true_eq] at ok9
    obtain ⟨w1, w2, w3⟩ := ok9
    exact m_callR (va_runS (As := (st.take b).reverse.map (m_tr base ext)) S hM ⟨callB_of b C.2.2.2.2.1 (m_good hcode) rfl rfl rfl hini (C.2.2.2.2.1 _ (m_at_mem w1 rfl)) ⟨ok3, ok4, w3⟩ hRm, C.2.2.2.2.1 _ (m_at_mem w2 rfl)⟩ ⟨m_Pc_blind, hPc⟩ rfl hlen hrl hstk hWd hd ⟨hcl, hsl⟩) hS fin
  · rename_i i hd
    simp only [Bool.and_eq_true, decide_eq_true_eq] at ok9
    obtain ⟨w1, w2, w3⟩ := ok9
    exact m_callR (va_runSN (As := (st.take b).reverse.map (m_tr base ext)) S hM ⟨va_cnB b C.2.2.2.2.1 (m_good hcode) rfl rfl rfl (C.2.2.2.2.2.1.2.1 _ (m_nest_in w1)) hini ⟨ok3, ok4, w3⟩ hRm, C.2.2.2.2.1 _ (m_at_mem w2 rfl), trivial⟩ ⟨m_Pc_blind, hPc⟩ rfl hlen hrl hstk hWd hd ⟨hcl, hsl⟩) hS fin
  · rename_i i hk hd
    simp only [Bool.and_eq_true, decide_eq_true_eq] at ok9
    obtain ⟨w1, w2, w3, w4, w5⟩ := ok9
    obtain ⟨q, As', hAs, hq0, sh, hq1, hq2⟩ := m_rcv_obj (Or.inl hk) hb4
    obtain ⟨rc, hrc, hrn⟩ : ∃ rc, mCL[ts.getD 6 99]? = some rc ∧ rc.1 = y.cls := by
      cases hz : mCL[ts.getD 6 99]? with
      | none => rw [hz] at w5; cases w5
      | some rc => rw [hz] at w5; exact ⟨rc, rfl, Option.some.inj w5⟩
    have h100 : ts.getD 6 99 < 100 := by
      have := (List.getElem?_eq_some_iff.mp hrc).1
      simp only [mCL, List.length_cons, List.length_nil] at this
      omega
    have he := m_ws_get (cA := cA) (base := base) (ext := ext) hq1
    obtain ⟨z1, z2⟩ := sh
    dsimp only at hq2
    subst hq2
    rw [m_cell_obj h100] at he
    have hrv := va_recv (D := D) C.2.2.2.2.2.1.1 hV hrc he
    rw [hrn] at hrv
    rw [hAs] at hPc hM hstk hlen
    rw [List.map_cons, m_tr_ref, m_ad_lt hq0] at hPc hstk hlen
    rw [List.reverse_cons, List.append_assoc] at hstk
    exact m_callR (va_runV (As := As'.map (m_tr base ext)) (C := y.cls) (b := base + q) S hM ⟨callB_of (b - 1) C.2.2.2.2.1 (m_good hcode) rfl rfl rfl hini (C.2.2.2.2.1 _ (m_at_mem w1 rfl)) ⟨ok3, ok4, m_par w4⟩ hRm, C.2.2.2.2.1 _ (m_at_mem w2 rfl), C.2.2.2.2.1 _ (m_at_mem w3 rfl)⟩ ⟨m_Pc_blind, hrv, hPc⟩ rfl (by rw [List.length_cons] at hlen; omega) hrl hstk hWd hd ⟨hcl, hsl⟩) hS fin
  · rename_i i hk hd
    simp only [Bool.and_eq_true, decide_eq_true_eq] at ok9
    obtain ⟨w1, w2, w3, w4, w5⟩ := ok9
    obtain ⟨q, As', hAs, hq0, sh, hq1, hq2⟩ := m_rcv_obj (Or.inr hk) hb4
    obtain ⟨rc, hrc, hrn⟩ : ∃ rc, mCL[ts.getD 6 99]? = some rc ∧ rc.1 = y.cls := by
      cases hz : mCL[ts.getD 6 99]? with
      | none => rw [hz] at w5; cases w5
      | some rc => rw [hz] at w5; exact ⟨rc, rfl, Option.some.inj w5⟩
    have h100 : ts.getD 6 99 < 100 := by
      have := (List.getElem?_eq_some_iff.mp hrc).1
      simp only [mCL, List.length_cons, List.length_nil] at this
      omega
    have he := m_ws_get (cA := cA) (base := base) (ext := ext) hq1
    obtain ⟨z1, z2⟩ := sh
    dsimp only at hq2
    subst hq2
    rw [m_cell_obj h100] at he
    have hrv := va_recv (D := D) C.2.2.2.2.2.1.1 hV hrc he
    rw [hrn] at hrv
    rw [hAs] at hPc hM hstk hlen
    rw [List.map_cons, m_tr_ref, m_ad_lt hq0] at hPc hstk hlen
    rw [List.reverse_cons, List.append_assoc] at hstk
    exact m_callR (va_runVN (As := As'.map (m_tr base ext)) (C := y.cls) (b := base + q) S hM ⟨va_cnB (b - 1) C.2.2.2.2.1 (m_good hcode) rfl rfl rfl (C.2.2.2.2.2.1.2.1 _ (m_nest_in w1)) hini ⟨ok3, ok4, m_par w4⟩ hRm, C.2.2.2.2.1 _ (m_at_mem w2 rfl), C.2.2.2.2.1 _ (m_at_mem w3 rfl)⟩ ⟨m_Pc_blind, hrv, hPc⟩ rfl (by rw [List.length_cons] at hlen; omega) hrl hstk hWd hd ⟨hcl, hsl⟩) hS fin
  · rename_i i hk hd
    simp only [Bool.and_eq_true, decide_eq_true_eq] at ok9
    obtain ⟨w1, w2, ⟨w3, w3b⟩, w4⟩ := ok9
    obtain ⟨q, As', hAs⟩ := m_rcv_any (Or.inl hk) hb4
    rw [hAs] at hPc hM hstk hlen
    rw [List.map_cons, m_tr_ref] at hPc hstk hlen
    rw [List.reverse_cons, List.append_assoc] at hstk
    subst w3b
    exact m_callR (va_runI (As := As'.map (m_tr base ext)) (b := m_ad base ext q) S hM ⟨callB_of (b - 1) C.2.2.2.2.1 (m_good hcode) rfl rfl rfl hini (C.2.2.2.2.1 _ (m_at_mem w1 rfl)) ⟨ok3, ok4, m_par w4⟩ hRm, w3, C.2.2.2.2.1 _ (m_at_mem w2 rfl)⟩ ⟨m_Pc_blind, hPc⟩ rfl (by rw [List.length_cons] at hlen; omega) hrl hstk hWd hd ⟨hcl, hsl⟩) hS fin
  · rename_i i hk hd
    simp only [Bool.and_eq_true, decide_eq_true_eq] at ok9
    obtain ⟨w1, w2, ⟨w3, w3b⟩, w4⟩ := ok9
    obtain ⟨q, As', hAs⟩ := m_rcv_any (Or.inr hk) hb4
    rw [hAs] at hPc hM hstk hlen
    rw [List.map_cons, m_tr_ref] at hPc hstk hlen
    rw [List.reverse_cons, List.append_assoc] at hstk
    subst w3b
    exact m_callR (va_runIN (As := As'.map (m_tr base ext)) (b := m_ad base ext q) S hM ⟨va_cnB (b - 1) C.2.2.2.2.1 (m_good hcode) rfl rfl rfl (C.2.2.2.2.2.1.2.1 _ (m_nest_in w1)) hini ⟨ok3, ok4, m_par w4⟩ hRm, w3, C.2.2.2.2.1 _ (m_at_mem w2 rfl)⟩ ⟨m_Pc_blind, hPc⟩ rfl (by rw [List.length_cons] at hlen; omega) hrl hstk hWd hd ⟨hcl, hsl⟩) hS fin
  · rename_i i hk hd
    simp only [Bool.and_eq_true, decide_eq_true_eq] at ok9
    obtain ⟨w1, w2, w3, w4, w5⟩ := ok9
    rw [hk] at hb4
    obtain ⟨q, As', hAs, hq0, hq1⟩ := m_rcv_str hb4
    have hrv := vk_recv C.2.2.2.2.2.1.2.2.2.1 (i := q - mBIG) (by omega) hS
    rw [← w5] at hrv
    rw [hAs] at hPc hM hstk hlen
    rw [List.map_cons, m_tr_ref, m_ad_str hq0] at hPc hstk hlen
    rw [List.reverse_cons, List.append_assoc] at hstk
    exact m_callR (va_runV (As := As'.map (m_tr base ext)) (C := y.cls) (b := ext (q - mBIG)) S hM ⟨callB_of (b - 1) C.2.2.2.2.1 (m_good hcode) rfl rfl rfl hini (C.2.2.2.2.1 _ (m_at_mem w1 rfl)) ⟨ok3, ok4, m_par w4⟩ hRm, C.2.2.2.2.1 _ (m_at_mem w2 rfl), C.2.2.2.2.1 _ (m_at_mem w3 rfl)⟩ ⟨m_Pc_blind, hrv, hPc⟩ rfl (by rw [List.length_cons] at hlen; omega) hrl hstk hWd hd ⟨hcl, hsl⟩) hS fin
  · cases ok9
end MX
theorem m_exec_snd {l : Launch} {D : va_G} {cA : Nat → ClassId} {base : Nat} {ext : Nat → Nat} {fm : Value} {TT : List mE} {L : Nat} {xs : Nat → Int32} (hTT : ∀ E ∈ TT, m_okE TT E = true) : ∀ n, m_Snd l D cA base ext fm TT L xs n := by
  intro n
  induction n with
  | zero =>
    intro p e R s m args below meth c cells slots Q own nm cc nL fr lo ret pg pc ls st mem r mem' C hok hX hfr hlo hsz hcl hsl hx hfin
    cases hx
  | succ n ih =>
    intro p e R s m args below meth c cells slots Q own nm cc nL fr lo ret pg pc ls st mem r mem' C hok hX hfr hlo hsz hcl hsl hx hfin
    obtain ⟨op, a, b, d, v, ts, hl, h⟩ := m_one_inv (show m_one TT fm L xs (m_exec TT fm L xs n) pg pc ls st mem = some (r, mem') from hx)
    have hI := List.all_eq_true.mp hok (pc, (op, a, b, d, v, ts)) (m_lookup hl)
    unfold m_okI at hI
    dsimp only at hI
    rcases h with h | h | h | h | h | h
    · obtain ⟨rfl, z, rfl, hnr, rfl, rfl⟩ := h
      rw [if_pos rfl] at hI
      simp only [Bool.and_eq_true] at hI
      obtain ⟨h1, h2⟩ := hI
      have hd1 := of_decide_eq_true h1
      rw [Nat.sub_self, Nat.sub_self] at hfin
      match b, hnr, h2 with
      | 0, hnr, h2 => exact hfin pc ls (Or.inr (Or.inl ⟨z, .int, rfl, hd1, of_decide_eq_true h2, rfl⟩))
      | 1, hnr, h2 => exact hfin pc ls (Or.inr (Or.inl ⟨z, .boolean, rfl, hd1, of_decide_eq_true h2, by rcases of_decide_eq_true hnr with rfl | rfl <;> decide⟩))
      | 2, hnr, h2 => exact hfin pc ls (Or.inr (Or.inl ⟨z, .byte, rfl, hd1, of_decide_eq_true h2, by show Value.int z.toInt8.toInt32 = _; rw [of_decide_eq_true hnr]⟩))
      | k + 3, hnr, h2 => exact hfin pc ls (Or.inr (Or.inl ⟨z, .char, rfl, hd1, of_decide_eq_true h2, by show Value.int z.toUInt32.toUInt16.toUInt32.toInt32 = _; rw [of_decide_eq_true hnr]⟩))
    · obtain ⟨rfl, rfl, rfl, rfl⟩ := h
      rw [if_neg (by decide), if_pos rfl] at hI
      simp only [Bool.and_eq_true, decide_eq_true_eq] at hI
      rw [Nat.sub_self, Nat.sub_self] at hfin
      exact hfin pc ls (Or.inl ⟨rfl, hI.1, hI.2⟩)
    · obtain ⟨rfl, z, rfl, rfl, rfl⟩ := h
      rw [if_neg (by decide), if_neg (by decide), if_pos rfl] at hI
      simp only [Bool.and_eq_true, decide_eq_true_eq] at hI
      rw [Nat.sub_self, Nat.sub_self] at hfin
      exact hfin pc ls (Or.inr (Or.inr (Or.inl ⟨z, rfl, hI.1, hI.2⟩)))
    · obtain ⟨rfl, z, rfl, rfl, rfl⟩ := h
      rw [if_neg (by decide), if_neg (by decide), if_neg (by decide), if_pos rfl] at hI
      simp only [Bool.and_eq_true, decide_eq_true_eq] at hI
      rw [Nat.sub_self, Nat.sub_self] at hfin
      obtain ⟨h1, h2⟩ := hI
      split at h2
      · rename_i cn
        exact hfin pc ls (Or.inr (Or.inr (Or.inr ⟨z, cn, rfl, h1, rfl⟩)))
      · cases h2
    · obtain ⟨rfl, y, code, nL', ret', frj, loj, pg', r1, mem1, hj, hb1, hb2, hb3, hb4, hx1, hx2⟩ := h
      rw [if_neg (by decide), if_neg (by decide), if_neg (by decide), if_neg (by decide), if_pos rfl] at hI
      have e1 := m_exec_mono _ _ _ _ _ _ _ _ hx1
      have e2 := m_exec_mono _ _ _ _ _ _ _ _ hx2
      refine ms_call C ih hTT hfr hlo hI hj hb1 hb2 hb3 hb4 hx1 hsz (by omega) (by omega) ?_
      refine ih p e R s m args below meth c _ _ Q own nm cc nL fr lo ret pg (pc + 3) ls _ mem1 r mem' C hok hX hfr hlo (by omega) (by omega) (by omega) hx2 ?_
      intro pc2 ls2 hr2
      have k := hfin pc2 ls2 hr2
      rw [show cells + (mem1.1.length - mem.1.length) + (mem'.1.length - mem1.1.length) = cells + (mem'.1.length - mem.1.length) by omega, show slots + (m_sz mem1 - m_sz mem) + (m_sz mem' - m_sz mem1) = slots + (m_sz mem' - m_sz mem) by omega]
      exact k
    · obtain ⟨⟨n90, n91, n92, n93, n80⟩, pc', ls', st', mem1, hs, hx2⟩ := h
      rw [if_neg n90, if_neg n91, if_neg n92, if_neg n93, if_neg n80] at hI
      have e1 := m_mono_le (m_step_mono hs)
      have e2 := m_exec_mono _ _ _ _ _ _ _ _ hx2
      have hsz2 : s.heap.size + (cells + (mem1.1.length - mem.1.length)) = base + mem1.1.length := by omega
      refine m_step_snd C hX hfr hlo hsz (by omega) (by omega) ?_ op hI hs
      refine ih p e R s m args below meth c _ _ Q own nm cc nL fr lo ret pg pc' ls' st' mem1 r mem' C hok hX hfr hlo hsz2 (by omega) (by omega) hx2 ?_
      intro pc2 ls2 hr2
      have k := hfin pc2 ls2 hr2
      rw [show cells + (mem1.1.length - mem.1.length) + (mem'.1.length - mem1.1.length) = cells + (mem'.1.length - mem.1.length) by omega, show slots + (m_sz mem1 - m_sz mem) + (m_sz mem' - m_sz mem1) = slots + (m_sz mem' - m_sz mem) by omega]
      exact k
