/-! THE CLAIM OUT OF ONE WALK OF THE LAW'S BODY. Your part is whole_start (and what it stands on); all else here is the same for every law, but numbers. -/
def R_law : String := "RedBlueWaysLaw"
def lw_P (b : Addr) (xs : List Int32) (args : Array Value) (s : State) : Prop := args = #[.ref b] ∧ s.IntsAt b xs ∧ xs.length ≤ 3072 ∧ (Jvm.Cond.and given_1 narrow_1).before args s = true
def lw_Q (_ : Array Value) (s : State) (o : Outcome) (t : State) : Prop := o = .returned (some (.int 1)) ∧ Framed s o t [] 600000 7302250
def lw_Z (below : List Frame) (a : Array Value) (s : State) : State → Prop := fun t => ∃ o, t.status = .running ∧ Ended t below o ∧ lw_Q a s o t
/-- the law's own end, with 1 on the stack, nothing written that was there before, its room as the claim has it -/
theorem lw_ret {p : Program} {l : Launch} {e : Env} {s : State} {m : MethodId} {below : List Frame} {meth : Method} {c : Code} {b : Nat} (hx : p.tables.exec = Jvm.exec) (hb : c.code = code) (hr : meth.sig.returnType = ret) (hlocks : meth.locks = false) {pc : Nat} {H : Heap} {ls : Array Slot} (hdg : decode code pc = .ok (.ireturn, 1)) : W p l e room_1 s m #[Value.ref b] below meth c H [] 600000 7302250 (lw_Z below #[Value.ref b] s) (F0 m pc ls [.int 1]) := by
  intro T hT X
  obtain ⟨fs, hret, hrun, hended, hW, hframe⟩ := X.leave (v := some (.int 1)) (hlocks := hlocks) (fun h => by rw [hr] at h; cases h)
  have hmeth' : T.vm.method? m = some meth := X.method'
  refine ⟨T.setFrames fs, ?_, .returned (some (.int 1)), hrun, hended, rfl, ⟨_, rfl⟩, hW, hframe⟩
  jvm_step X.here [X.here.top, hx, hb, hdg, hmeth', hr, ret, narrow_b1]
  (try refine ⟨rfl, ?_⟩); (try refine ⟨rfl, ?_⟩)
  first | (intro acts; rw [hret _ acts rfl rfl rfl]) | rw [hret _ _ rfl rfl rfl]
  exact Steps.refl _
/-- what holds at the law's entry: the machine, the code, the tables' words (any of lw_tbl by 'hts w (by decide +kernel)'), the script of L ints xs at the cell b, what the Statement gives of the start (any of its parts by flat_of_before) -/
def lw_At (p : Program) (s : State) (m : MethodId) (meth : Method) (c : Code) (b L : Nat) (xs : Nat → Int32) : Prop :=
  p.tables.exec = Jvm.exec ∧ c.code = code ∧ meth.sig.returnType = ret ∧ c.maxLocals = 4 ∧ s.vm.findClass R_law = some m.cls ∧ (∀ w ∈ lw_tbl, w.before #[Value.ref b] s = true) ∧ va_X b L xs s s.heap ∧ b < s.heap.size ∧ meth.locks = false ∧ (Jvm.Cond.and given_1 narrow_1).before #[Value.ref b] s = true
/-! ===== from the small machine's run of the law to the claim's walk ===== -/
def m_mem0 : mM := ([], fun _ _ => 0, fun _ _ => 0, fun _ _ => none)
def m_flat : List Cond := flatC (Jvm.Cond.and given_1 narrow_1)
def m_tm (j : Nat) : Term := Term.string RX5 (m_tx.getD j (0, "")).1
set_option maxRecDepth 20000 in
theorem m_fl1 : ∀ i, i < 9 → Cond.exactly (m_tm i) "java/lang/String" ∈ m_flat := by decide +kernel
set_option maxRecDepth 20000 in
theorem m_fl2 : ∀ i, i < 9 → Cond.eq (.field (m_tm i) "java/lang/String" "coder" "B") (.int 0) ∈ m_flat := by decide +kernel
set_option maxRecDepth 20000 in
theorem m_fl3 : ∀ i, i < 9 → Cond.arrayOf (.field (m_tm i) "java/lang/String" "value" "[B") .byte ∈ m_flat := by decide +kernel
set_option maxRecDepth 20000 in
theorem m_fl4 : ∀ i, i < 9 → Cond.eq (.length (.field (m_tm i) "java/lang/String" "value" "[B")) (.int (Int32.ofNat ((m_str.map List.length).getD i 0))) ∈ m_flat := by decide +kernel
set_option maxRecDepth 20000 in
theorem m_fl5 : ∀ i, i < 9 → ∀ j, j < (m_str.map List.length).getD i 0 → Cond.eq (.elem (.field (m_tm i) "java/lang/String" "value" "[B") (.int (Int32.ofNat j))) (.int ((m_str.getD i []).getD j 0)) ∈ m_flat := by decide +kernel
set_option maxRecDepth 20000 in
theorem m_fl6 : ∀ j, j < 9 → ∀ i, i < j → Cond.not (Cond.eq (m_tm i) (m_tm j)) ∈ m_flat := by decide +kernel
theorem m_fl7 : ∀ i, i < 9 → (m_str.map List.length).getD i 0 < 2 ^ 31 := by decide +kernel
set_option maxRecDepth 20000 in
theorem m_fl8 : Cond.eq (.static "java/lang/String" "COMPACT_STRINGS" "Z") (.int 1) ∈ m_flat ∧ Cond.isRef (.static "jdk/internal/util/Preconditions" "SIOOBE_FORMATTER" "Ljava/util/function/BiFunction;") ∈ m_flat := by decide +kernel
set_option maxRecDepth 20000 in
theorem m_tb1 : (Cond.laysStatic "java/lang/String" "COMPACT_STRINGS" "Z" ∈ lw_tbl ∧ Cond.initialized "java/lang/String" ∈ lw_tbl) ∧ (Cond.laysStatic "jdk/internal/util/Preconditions" "SIOOBE_FORMATTER" "Ljava/util/function/BiFunction;" ∈ lw_tbl ∧ Cond.initialized "jdk/internal/util/Preconditions" ∈ lw_tbl) := by decide +kernel
set_option maxRecDepth 20000 in
theorem m_tb2 : (Cond.arrayClass .int ∈ lw_tbl ∧ Cond.arrayClass .long ∈ lw_tbl) ∧ (Cond.arrayClass .byte ∈ lw_tbl ∧ Cond.arrayClass .boolean ∈ lw_tbl) ∧ Cond.arrayOver (.object RX6) ∈ lw_tbl := by decide +kernel
set_option maxRecDepth 20000 in
theorem m_tb3 : ∀ j, j < 9 → Cond.stringRef RX5 (m_tx.getD j (0, "")).1 (m_tx.getD j (0, "")).2 ∈ lw_tbl := by decide +kernel
set_option maxRecDepth 20000 in
theorem m_tb4 : ∀ ci, ci < 12 → Cond.instantiable (mCL.getD ci (RX0, TX0, 9)).1 (mCL.getD ci (RX0, TX0, 9)).2.2 ∈ lw_tbl := by decide +kernel
theorem m_arrOf {args : Array Value} {s : State} {ty : FieldType} (h : (Cond.arrayClass ty).before args s = true) (ho : ∀ C, ty ≠ .object C) : ∃ cB : ClassId, ArrOfT s cB ty ∧ va_RA s cB ty := by
  obtain ⟨cB, kB, comp, h1, h2, h3⟩ := Cond.arrayClass_spec h
  refine ⟨cB, fun n z => ⟨fun k h => (by cases h), kB, h2, comp, h3⟩, ?_⟩
  cases ty with
  | object C => exact absurd rfl (ho C)
  | _ => exact h1
set_option maxHeartbeats 4000000 in
theorem m_start {p : Program} {e : Env} {s : State} {m : MethodId} {below : List Frame} {meth : Method} {c : Code} (l : Launch) {b L : Nat} {xs : Nat → Int32} (C0 : lw_At p s m meth c b L xs)
    (hlaw : ∀ fm : Value, fm = .null ∨ fm = .ref (mBIG + 200) → ∃ (n : Nat) (mem' : mM), m_exec mTT fm L xs n pg_L_law 0 (m_entry [.ref (mBIG + 100)] 4) [] m_mem0 = some (.int 1, mem') ∧ mem'.1.length ≤ 600000 ∧ m_sz mem' ≤ 7302250) :
    W p l e room_1 s m #[Value.ref b] below meth c s.heap [] 0 0 (lw_Z below #[Value.ref b] s) (entryFrame m ([Value.ref b] : List Value).toArray 4) := by
  obtain ⟨hx, hb, hr, hml, hown, hts, hX, hbl, hlocks, hgv⟩ := C0
  have hs : ∀ w ∈ m_flat, w.before #[Value.ref b] s = true := flat_of_before _ hgv
  have hA : ∀ a : Nat, a < s.heap.size → ¬ m_A s.heap.size a := fun a h z => Nat.lt_irrefl _ (Nat.lt_of_lt_of_le h z)
  obtain ⟨adK, adV, hStr, hev⟩ := vk_Sof (args := #[Value.ref b]) (s := s) (N := 9) (tm := m_tm) (len := m_str.map List.length) (byt := m_str) (A := m_A s.heap.size) m_fl7 (fun i h => hs _ (m_fl1 i h)) (fun i h => hs _ (m_fl2 i h)) (fun i h => hs _ (m_fl3 i h)) (fun i h => hs _ (m_fl4 i h)) (fun i h j hj => hs _ (m_fl5 i h j hj)) (fun i j hi hj hne => by
    by_cases z : i < j
    · exact Or.inl (hs _ (m_fl6 j hj i z))
    · exact Or.inr (hs _ (m_fl6 i hi j (by omega)))) hA
  have hZ1 : va_Z "java/lang/String" "COMPACT_STRINGS" "Z" (.int 1) (m_A s.heap.size) s s.heap := va_Zof (hts _ m_tb1.1.1) (hts _ m_tb1.1.2) (va_eqt (hs _ m_fl8.1)) hA
  have hZ2 : va_Zq "jdk/internal/util/Preconditions" "SIOOBE_FORMATTER" "Ljava/util/function/BiFunction;" (m_A s.heap.size) s s.heap := va_Zqof (hts _ m_tb1.2.1) (hts _ m_tb1.2.2) (hs _ m_fl8.2) hA
  obtain ⟨cI, hI1, hI2⟩ := m_arrOf (hts _ m_tb2.1.1) (fun C z => by cases z)
  obtain ⟨cJ, hJ1, hJ2⟩ := m_arrOf (hts _ m_tb2.1.2) (fun C z => by cases z)
  obtain ⟨cB, hB1, hB2⟩ := m_arrOf (hts _ m_tb2.2.1.1) (fun C z => by cases z)
  obtain ⟨cZ, hZ1', hZ2'⟩ := m_arrOf (hts _ m_tb2.2.1.2) (fun C z => by cases z)
  obtain ⟨comp, cO, kO, o1, -, o2, o3, o4⟩ := Cond.arrayOver_spec (hts _ m_tb2.2.2)
  have hO1 : ArrOfT s cO (.object RX6) := fun n z => ⟨fun k h => (by cases h), kO, o2, comp, o3⟩
  have hO2 : va_RA s cO (.object RX6) := ⟨kO, comp, o2, o3, o1, o4⟩
  have hcls : ∀ ci : Nat, ∃ d : ClassId × (Nat → Nat), ∀ q, mCL[ci]? = some q → u_Kn s q.1 q.2.1 q.2.2 d.1 d.2 := by
    intro ci
    cases hq : mCL[ci]? with
    | none => exact ⟨(0, fun _ => 0), fun q z => by cases z⟩
    | some q =>
      have hlt : ci < 12 := (List.getElem?_eq_some_iff.mp hq).1
      have hg : mCL.getD ci (RX0, TX0, 9) = q := by rw [List.getD_eq_getElem?_getD, hq]; rfl
      obtain ⟨-, -, hin, -⟩ := m_cls_all ci q hq
      have hi := m_tb4 ci hlt
      rw [hg] at hi
      obtain ⟨cC, iS, h⟩ := u_known (ws := lw_tbl) hts (fun w hw => (List.mem_filter.mp (hin w hw)).1) (hts _ hi)
      exact ⟨(cC, iS), fun q2 z => by cases z; exact h⟩
  obtain ⟨f, hf⟩ := Classical.axiomOfChoice hcls
  -- the world's names
  have hK : va_K (fun ci => (f ci).1, fun ci => (f ci).2) mCL (m_tys (fun t => match t with
      | 0 => cI
      | 1 => cJ
      | 2 => cB
      | 3 => cZ
      | _ => cO)) s := by
    refine ⟨fun ci q hq => hf ci q hq, fun k q hk => ?_⟩
    match k, hk with
    | 0, hk => cases hk; exact ⟨hI1, hI2⟩
    | 1, hk => cases hk; exact ⟨hJ1, hJ2⟩
    | 2, hk => cases hk; exact ⟨hB1, hB2⟩
    | 3, hk => cases hk; exact ⟨hZ1', hZ2'⟩
    | 4, hk => cases hk; exact ⟨hO1, hO2⟩
    | n + 5, hk => cases hk
  obtain ⟨fm, tz, hfm, hfz⟩ : ∃ (fm : Value) (tz : Nat), (fm = .null ∨ fm = .ref (mBIG + 200)) ∧ ∀ ext : Nat → Nat, ext 200 = tz → va_Z "jdk/internal/util/Preconditions" "SIOOBE_FORMATTER" "Ljava/util/function/BiFunction;" (m_tr s.heap.size ext fm) (m_A s.heap.size) s s.heap := by
    rcases hZ2 with h | ⟨t, h⟩
    · exact ⟨.null, 0, Or.inl rfl, fun ext _ => h⟩
    · refine ⟨.ref (mBIG + 200), t, Or.inr rfl, fun ext he => ?_⟩
      rw [m_tr_ref, m_ad_str (by omega), Nat.add_sub_cancel_left, he]
      exact h
  obtain ⟨n, mem', hrun, hc, hz⟩ := hlaw fm hfm
  generalize hext : (fun k : Nat => if k < 9 then adK k else if k < 59 then adV (k - 50) else if k = 100 then b else tz) = ext
  have e1 : ∀ j, j < 9 → ext j = adK j := fun j hj => by rw [← hext]; dsimp only; rw [if_pos hj]
  have e2 : ∀ j, j < 9 → ext (50 + j) = adV j := fun j hj => by rw [← hext]; dsimp only; rw [if_neg (by omega), if_pos (by omega), Nat.add_sub_cancel_left]
  have e3 : ext 100 = b := by rw [← hext]; rfl
  have e4 : ext 200 = tz := by rw [← hext]; rfl
  have hEnv : m_Env (fun ci => (f ci).1, fun ci => (f ci).2) (fun t => match t with
      | 0 => cI
      | 1 => cJ
      | 2 => cB
      | 3 => cZ
      | _ => cO) s.heap.size ext fm s s.heap := by
    refine ⟨hK, fun w hw => ?_, va_AO.of (hts _ m_tb2.2.2), ⟨fun i hi => ?_, fun i j hi hj z => ?_⟩, fun j q hq => ?_, hZ1, hfz ext e4⟩
    · have h2 := (List.mem_filter.mp hw).2
      have h1 := (List.mem_filter.mp hw).1
      cases w <;> first | exact va_Nw.of rfl (hts _ h1) | cases h2
    · dsimp only
      rw [e1 i hi, e2 i hi]
      exact hStr.1 i hi
    · rw [e1 i hi, e1 j hj] at z
      exact hStr.2 i j hi hj z
    · have hj : j < 9 := (List.getElem?_eq_some_iff.mp hq).1
      have hg : m_tx.getD j (0, "") = q := by rw [List.getD_eq_getElem?_getD, hq]; rfl
      have h1 := m_tb3 j hj
      have h2 := hev j hj
      rw [e1 j hj]
      unfold m_tm at h2
      rw [hg] at h1 h2
      exact vk_R.of (hts _ h1) h2
  have C : m_C p s m c #[Value.ref b] meth RL meth.name code 4 (fun ci => (f ci).1, fun ci => (f ci).2) (fun t => match t with
      | 0 => cI
      | 1 => cJ
      | 2 => cB
      | 3 => cZ
      | _ => cO) s.heap.size ext fm := ⟨hx, hb, hml, hown, fun w hw => hts w (List.mem_filter.mp hw).1, hEnv, Nat.le_refl _, rfl, hlocks⟩
  rw [lg_entry_eq]
  have hent : m_L s.heap.size ext 4 (m_entry [.ref (mBIG + 100)] 4) ((lg_sl ([Value.ref b] : List Value) ++ List.replicate (4 - (lg_sl ([Value.ref b] : List Value)).length) Slot.unset).toArray) := by
    have h := m_L.entry (base := s.heap.size) (ext := ext) (n := 4) (As := [.ref (mBIG + 100)]) (by decide)
    have hm : ([Value.ref (mBIG + 100)] : List Value).map (m_tr s.heap.size ext) = [Value.ref b] := by
      show [Value.ref (m_ad s.heap.size ext (mBIG + 100))] = _
      rw [m_ad_str (by omega), Nat.add_sub_cancel_left, e3]
    rw [hm] at h
    exact h
  refine m_exec_snd (l := l) (L := L) (xs := xs) mTT_ok n p e room_1 s m #[Value.ref b] below meth c 0 0 _ RL meth.name code 4 9 213 (some .boolean) pg_L_law 0 _ [] m_mem0 (.int 1) mem' C ?_ (fun _ => ⟨b, hX, hbl, hA b hbl, by rw [m_ad_str (by omega), Nat.add_sub_cancel_left, e3]⟩) (by decide) (by decide) (by show s.heap.size + 0 = s.heap.size + 0; rfl) ?_ ?_ hrun (fun pc2 ls2 hro => ?_) s.heap [] _ hent (fun k q hk => by simp [m_ws, m_mem0] at hk) va_S.rf
  · exact ok_law meth.name
  · show 0 + (mem'.1.length - 0) ≤ 600000
    omega
  · show 0 + (m_sz mem' - 0) ≤ 7302250
    omega
  · intro H locs rl hl hV hS
    refine va_forget (fun q hq => hS.2.2 q hq) ?_
    refine W.widen (k := 600000) (n := 7302250) (by show 0 + (mem'.1.length - 0) ≤ 600000; omega) (by show 0 + (m_sz mem' - 0) ≤ 7302250; omega) ?_
    rcases hro with ⟨z, -, -⟩ | ⟨z, ty, hz1, hd, -, -⟩ | ⟨z, hz1, -, -⟩ | ⟨z, cn, hz1, -, -⟩
    · cases z
    · exact lw_ret hx hb hr hlocks hd
    · cases hz1
    · cases hz1
