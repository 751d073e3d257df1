/-! ===== what the small machine's values, locals and memory are on the real one ===== -/
abbrev mCL : List vw_C := [(RX0, TX0, 9), (RX1, TX1, 4), (RX2, TX2, 3), (RX3, TX3, 7), (RX4, TX4, 1), (RX5, TX5, 17), (RX6, TX6, 14), (RX7, TX7, 7), (RX8, TX8, 5), (RX9, TX9, 5), (RX10, TX10, 16), (RX11, TX11, 64)]
abbrev m_tys (cA : Nat → ClassId) : List (ClassId × FieldType) := [(cA 0, .int), (cA 1, .long), (cA 2, .byte), (cA 3, .boolean), (cA 4, .object RX6)]
def m_ad (base : Nat) (ext : Nat → Nat) (k : Nat) : Nat := if k < mBIG then base + k else ext (k - mBIG)
def m_tr (base : Nat) (ext : Nat → Nat) (v : Value) : Value := match v with
  | .ref k => .ref (m_ad base ext k)
  | v => v
theorem m_tr_int {base : Nat} {ext : Nat → Nat} (x : Int32) : m_tr base ext (.int x) = .int x := rfl
theorem m_tr_long {base : Nat} {ext : Nat → Nat} (x : Int64) : m_tr base ext (.long x) = .long x := rfl
theorem m_tr_ref {base : Nat} {ext : Nat → Nat} (x : Nat) : m_tr base ext (.ref x) = .ref (m_ad base ext x) := rfl
theorem m_tr_null {base : Nat} {ext : Nat → Nat} : m_tr base ext .null = .null := rfl
theorem m_tr_cat {base : Nat} {ext : Nat → Nat} (v : Value) : (m_tr base ext v).category = v.category := by cases v <;> rfl
theorem m_tr_U {base : Nat} {ext : Nat → Nat} {v : Value} (h : v ≠ mU) : m_tr base ext v ≠ mU := by cases v <;> first | exact h | (intro z; cases z)
theorem m_cats {base : Nat} {ext : Nat → Nat} (l : List Value) : ((l.map (m_tr base ext)).map fun v => v.category) = l.map fun v => v.category := by
  rw [List.map_map]
  exact List.map_congr_left fun v _ => m_tr_cat v
theorem m_rf {base : Nat} {ext : Nat → Nat} (r : Option Nat) : va_rf (r.map (m_ad base ext)) = m_tr base ext (va_rf r) := by cases r <;> rfl
/-- the locals -/
def m_L (base : Nat) (ext : Nat → Nat) (nL : Nat) (ls : List Value) (rl : Array Slot) : Prop :=
  ls.length = nL ∧ rl.size = nL ∧ lv_wf rl ∧ ∀ (i : Nat) (v : Value), ls[i]? = some v → v ≠ mU → rl[i]? = some (.val (m_tr base ext v))
def m_lv (base : Nat) (ext : Nat → Nat) (ls : List Value) : List (Nat × Value) := (ls.mapIdx fun i v => (i, m_tr base ext v)).filter fun q => decide (q.2 ≠ mU)
theorem m_lv_mem {base : Nat} {ext : Nat → Nat} {ls : List Value} {q : Nat × Value} : q ∈ m_lv base ext ls ↔ (∃ v, ls[q.1]? = some v ∧ q.2 = m_tr base ext v) ∧ q.2 ≠ mU := by
  unfold m_lv
  rw [List.mem_filter]
  simp only [decide_eq_true_eq, List.mem_mapIdx]
  constructor
  · rintro ⟨⟨i, h, hq⟩, h2⟩
    subst hq
    exact ⟨⟨ls[i], by simp [List.getElem?_eq_getElem h], rfl⟩, h2⟩
  · rintro ⟨⟨v, h1, h2⟩, h3⟩
    obtain ⟨hi, e⟩ := List.getElem?_eq_some_iff.mp h1
    exact ⟨⟨q.1, hi, by rw [e, ← h2]⟩, h3⟩
theorem m_L.has {base : Nat} {ext : Nat → Nat} {nL : Nat} {ls : List Value} {rl : Array Slot} (h : m_L base ext nL ls rl) : lv_has rl nL (m_lv base ext ls) := by
  refine ⟨h.2.1, h.2.2.1, fun q hq => ?_⟩
  obtain ⟨⟨v, h1, h2⟩, h3⟩ := m_lv_mem.mp hq
  rw [h2]
  refine h.2.2.2 q.1 v h1 fun z => h3 ?_
  rw [h2, z]
  rfl
theorem m_L.at {base : Nat} {ext : Nat → Nat} {nL : Nat} {ls : List Value} {rl : Array Slot} (h : m_L base ext nL ls rl) {i : Nat} {v : Value} (hv : ls.getD i mU = v) (hu : v ≠ mU) : rl[i]? = some (.val (m_tr base ext v)) := by
  refine h.2.2.2 i v ?_ hu
  rw [List.getD_eq_getElem?_getD] at hv
  cases hi : ls[i]? with
  | none => rw [hi] at hv; exact absurd hv.symm hu
  | some w => rw [hi] at hv; exact congrArg some hv
theorem m_brk_get {ls : List Value} {i j : Nat} {w : Value} (h : (m_brk ls i)[j]? = some w) (hw : w ≠ mU) : ls[j]? = some w ∧ ¬ (j + 1 = i ∧ w.category = 2) := by
  unfold m_brk at h
  cases i with
  | zero => exact ⟨h, fun z => by omega⟩
  | succ k =>
    dsimp only at h
    by_cases hc : (ls.getD k mU).category = 2
    · rw [if_pos hc] at h
      by_cases hj : j = k
      · subst hj
        rw [List.getElem?_set] at h
        simp only [if_true] at h
        split at h
        · exact absurd (Option.some.inj h).symm hw
        · cases h
      · rw [List.getElem?_set_ne (fun z => hj z.symm)] at h
        exact ⟨h, fun z => hj (by omega)⟩
    · rw [if_neg hc] at h
      refine ⟨h, fun z => hc ?_⟩
      have : j = k := by omega
      subst this
      rw [List.getD_eq_getElem?_getD, h]
      exact z.2
theorem m_brk_len (ls : List Value) (i : Nat) : (m_brk ls i).length = ls.length := by
  unfold m_brk
  cases i with
  | zero => rfl
  | succ k => dsimp only; split <;> simp
theorem m_put_len (ls : List Value) (i : Nat) (v : Value) : (m_put ls i v).length = ls.length := by
  unfold m_put
  split <;> simp [m_brk_len]
theorem m_L.put1 {base : Nat} {ext : Nat → Nat} {nL : Nat} {ls : List Value} {rl rl' : Array Slot} (h : m_L base ext nL ls rl) {i : Nat} {v : Value} (hc : v.category = 1) (h' : lv_has rl' nL ((i, m_tr base ext v) :: (m_lv base ext ls).filter (fun q => !(q.1 == i) && !(q.1 + 1 == i && q.2.category == 2)))) : m_L base ext nL (m_put ls i v) rl' := by
  have hp : m_put ls i v = (m_brk ls i).set i v := by cases v <;> first | rfl | (simp [Value.category] at hc)
  refine ⟨by rw [m_put_len]; exact h.1, h'.1, h'.2.1, fun j w hj hw => ?_⟩
  rw [hp, List.getElem?_set] at hj
  by_cases e : i = j
  · subst e
    simp only [if_true] at hj
    split at hj
    · rw [← Option.some.inj hj]
      exact h'.2.2 (i, m_tr base ext v) List.mem_cons_self
    · cases hj
  · rw [if_neg e] at hj
    obtain ⟨h1, h2⟩ := m_brk_get hj hw
    refine h'.2.2 (j, m_tr base ext w) (List.mem_cons_of_mem _ (List.mem_filter.mpr ⟨m_lv_mem.mpr ⟨⟨w, h1, rfl⟩, m_tr_U hw⟩, ?_⟩))
    simp only [m_tr_cat, Bool.and_eq_true, Bool.not_eq_true', beq_eq_false_iff_ne, ne_eq, Bool.and_eq_false_iff]
    refine ⟨fun z => e z.symm, ?_⟩
    by_cases z : j + 1 = i
    · exact Or.inr fun y => h2 ⟨z, y⟩
    · exact Or.inl z
theorem m_L.put2 {base : Nat} {ext : Nat → Nat} {nL : Nat} {ls : List Value} {rl rl' : Array Slot} (h : m_L base ext nL ls rl) {i : Nat} {x : Int64} (h' : lv_has rl' nL ((i, Value.long x) :: (m_lv base ext ls).filter (fun q => !(q.1 == i) && (!(q.1 == i + 1) && !(q.1 + 1 == i && q.2.category == 2))))) : m_L base ext nL (m_put ls i (.long x)) rl' := by
  refine ⟨by rw [m_put_len]; exact h.1, h'.1, h'.2.1, fun j w hj hw => ?_⟩
  have hj : (((m_brk ls i).set i (.long x)).set (i + 1) mU)[j]? = some w := hj
  rw [List.getElem?_set] at hj
  by_cases e0 : i + 1 = j
  · subst e0
    simp only [if_true] at hj
    split at hj
    · exact absurd (Option.some.inj hj).symm hw
    · cases hj
  rw [if_neg e0, List.getElem?_set] at hj
  by_cases e : i = j
  · subst e
    simp only [if_true] at hj
    split at hj
    · rw [← Option.some.inj hj]
      exact h'.2.2 (i, .long x) List.mem_cons_self
    · cases hj
  · rw [if_neg e] at hj
    obtain ⟨h1, h2⟩ := m_brk_get hj hw
    refine h'.2.2 (j, m_tr base ext w) (List.mem_cons_of_mem _ (List.mem_filter.mpr ⟨m_lv_mem.mpr ⟨⟨w, h1, rfl⟩, m_tr_U hw⟩, ?_⟩))
    simp only [m_tr_cat, Bool.and_eq_true, Bool.not_eq_true', beq_eq_false_iff_ne, ne_eq, Bool.and_eq_false_iff]
    refine ⟨fun z => e z.symm, fun z => e0 z.symm, ?_⟩
    by_cases z : j + 1 = i
    · exact Or.inr fun y => h2 ⟨z, y⟩
    · exact Or.inl z
theorem m_L.seti {base : Nat} {ext : Nat → Nat} {nL : Nat} {ls : List Value} {rl rl' : Array Slot} (h : m_L base ext nL ls rl) {i : Nat} {x y : Int32} (hx : ls.getD i mU = .int x) (h' : lv_has rl' nL ((i, Value.int y) :: (m_lv base ext ls).filter (fun q => !(q.1 == i) && !(q.1 + 1 == i && q.2.category == 2)))) : m_L base ext nL (ls.set i (.int y)) rl' := by
  have hi := h.at hx (by intro z; cases z)
  refine ⟨by rw [List.length_set]; exact h.1, h'.1, h'.2.1, fun j w hj hw => ?_⟩
  rw [List.getElem?_set] at hj
  by_cases e : i = j
  · subst e
    simp only [if_true] at hj
    split at hj
    · rw [← Option.some.inj hj]
      exact h'.2.2 (i, .int y) List.mem_cons_self
    · cases hj
  · rw [if_neg e] at hj
    refine h'.2.2 (j, m_tr base ext w) (List.mem_cons_of_mem _ (List.mem_filter.mpr ⟨m_lv_mem.mpr ⟨⟨w, hj, rfl⟩, m_tr_U hw⟩, ?_⟩))
    simp only [m_tr_cat, Bool.and_eq_true, Bool.not_eq_true', beq_eq_false_iff_ne, ne_eq, Bool.and_eq_false_iff]
    refine ⟨fun z => e z.symm, ?_⟩
    by_cases z : j + 1 = i
    · refine Or.inr fun y => ?_
      have h1 := h.2.2.1.1 j _ (h.2.2.2 j w hj hw) (by rw [m_tr_cat]; exact y)
      rw [z, hi] at h1
      cases h1
    · exact Or.inl z
/-- a method's entry -/
theorem m_ent_cons (v : Value) (r : List Value) : m_ent (v :: r) = if v.category = 2 then v :: mU :: m_ent r else v :: m_ent r := rfl
theorem m_ent_len {base : Nat} {ext : Nat → Nat} (As : List Value) : (lg_sl (As.map (m_tr base ext))).length = (m_ent As).length := by
  induction As with
  | nil => rfl
  | cons v r ih =>
    have e : lg_sl ((v :: r).map (m_tr base ext)) = (if (m_tr base ext v).category = 2 then [.val (m_tr base ext v), .second] else [.val (m_tr base ext v)]) ++ lg_sl (r.map (m_tr base ext)) := rfl
    rw [e, List.length_append, ih, m_tr_cat, m_ent_cons]
    by_cases h : v.category = 2
    · rw [if_pos h, if_pos h]; simp; omega
    · rw [if_neg h, if_neg h]; simp; omega
theorem m_ent_at {base : Nat} {ext : Nat → Nat} (As : List Value) : ∀ (k i : Nat) (v : Value), (m_ent As)[i]? = some v → v ≠ mU → (k + i, m_tr base ext v) ∈ lv_args k (As.map (m_tr base ext)) := by
  induction As with
  | nil => intro k i v h; simp [m_ent] at h
  | cons a r ih =>
    intro k i v h hv
    rw [m_ent_cons] at h
    show _ ∈ (k, m_tr base ext a) :: lv_args (if (m_tr base ext a).category = 2 then k + 2 else k + 1) (r.map (m_tr base ext))
    rw [m_tr_cat]
    by_cases hc : a.category = 2
    · rw [if_pos hc] at h ⊢
      match i, h with
      | 0, h => cases h; exact List.mem_cons_self
      | 1, h => exact absurd (Option.some.inj h).symm hv
      | i + 2, h =>
        have h2 := ih (k + 2) i v h hv
        rw [show k + (i + 2) = k + 2 + i by omega]
        exact List.mem_cons_of_mem _ h2
    · rw [if_neg hc] at h ⊢
      match i, h with
      | 0, h => cases h; exact List.mem_cons_self
      | i + 1, h =>
        have h2 := ih (k + 1) i v h hv
        rw [show k + (i + 1) = k + 1 + i by omega]
        exact List.mem_cons_of_mem _ h2
theorem m_L.entry {base : Nat} {ext : Nat → Nat} {n : Nat} {As : List Value} (hn : (m_ent As).length ≤ n) : m_L base ext n (m_entry As n) ((lg_sl (As.map (m_tr base ext)) ++ List.replicate (n - (lg_sl (As.map (m_tr base ext))).length) Slot.unset).toArray) := by
  obtain ⟨h1, h2, h3⟩ := lv_entry (As.map (m_tr base ext)) (n := n) (by rw [m_ent_len]; exact hn)
  refine ⟨by unfold m_entry; simp; omega, h1, h2, fun i v hi hv => ?_⟩
  unfold m_entry at hi
  by_cases hl : i < (m_ent As).length
  · rw [List.getElem?_append_left hl] at hi
    have h4 := m_ent_at (base := base) (ext := ext) As 0 i v hi hv
    rw [Nat.zero_add] at h4
    exact h3 _ h4
  · rw [List.getElem?_append_right (by omega)] at hi
    have h5 := List.eq_of_mem_replicate (List.mem_of_getElem? hi)
    exact absurd h5 hv
/-- the memory -/
def m_fs (base : Nat) (ext : Nat → Nat) (mem : mM) (ci q : Nat) : List Value := (List.range (m_nf ci)).map fun k => if m_ft ci k = 1 then va_rf ((mem.2.2.2 q k).map (m_ad base ext)) else .int (mem.2.1 q k)
def m_arr (base : Nat) (ext : Nat → Nat) (mem : mM) (t q : Nat) : (Nat → Int32) ⊕ (Nat → Int64) ⊕ (Nat → UInt32) ⊕ (Nat → UInt64) ⊕ (Nat → Option Nat) := match t with
  | 1 => .inr (.inl (mem.2.2.1 q))
  | 4 => .inr (.inr (.inr (.inr fun j => (mem.2.2.2 q j).map (m_ad base ext))))
  | _ => .inl (mem.2.1 q)
def m_cell (cA : Nat → ClassId) (base : Nat) (ext : Nat → Nat) (mem : mM) (q : Nat) (sh : Nat × Nat) : va_E :=
  if sh.1 < 100 then .inr (sh.1, m_fs base ext mem sh.1 q) else .inl (cA (sh.1 - 100), sh.2, m_arr base ext mem (sh.1 - 100) q)
def m_ws (cA : Nat → ClassId) (base : Nat) (ext : Nat → Nat) (mem : mM) : va_W := mem.1.mapIdx fun q sh => (base + q, m_cell cA base ext mem q sh)
theorem m_ws_get {cA : Nat → ClassId} {base : Nat} {ext : Nat → Nat} {mem : mM} {q : Nat} {sh : Nat × Nat} (h : mem.1[q]? = some sh) : (m_ws cA base ext mem)[q]? = some (base + q, m_cell cA base ext mem q sh) := by
  unfold m_ws
  rw [List.getElem?_mapIdx, h]
  rfl
theorem m_ws_inv {cA : Nat → ClassId} {base : Nat} {ext : Nat → Nat} {mem : mM} {q : Nat} {x : Nat × va_E} (h : (m_ws cA base ext mem)[q]? = some x) : ∃ sh, mem.1[q]? = some sh ∧ x = (base + q, m_cell cA base ext mem q sh) := by
  unfold m_ws at h
  rw [List.getElem?_mapIdx] at h
  cases hq : mem.1[q]? with
  | none => rw [hq] at h; cases h
  | some sh => rw [hq] at h; exact ⟨sh, rfl, (Option.some.inj h).symm⟩
theorem m_ws_D {cA : Nat → ClassId} {base : Nat} {ext : Nat → Nat} {mem : mM} : va_D (fun q => base ≤ q) (m_ws cA base ext mem) := by
  refine ⟨fun i j a b hi hj hab => ?_, fun k q hk => ?_⟩
  · obtain ⟨_, -, rfl⟩ := m_ws_inv hi
    obtain ⟨_, -, rfl⟩ := m_ws_inv hj
    dsimp only at hab
    omega
  · obtain ⟨_, -, rfl⟩ := m_ws_inv hk
    exact Nat.le_add_right _ _
/-- one cell changes -/
theorem m_ws_set {cA : Nat → ClassId} {base : Nat} {ext : Nat → Nat} {mem mem' : mM} {q : Nat} {sh : Nat × Nat} {x : va_E} (hq : mem.1[q]? = some sh) (h1 : mem'.1 = mem.1) (hx : x = m_cell cA base ext mem' q sh) (hk : ∀ k sk, k ≠ q → m_cell cA base ext mem' k sk = m_cell cA base ext mem k sk) : (m_ws cA base ext mem).set q (base + q, x) = m_ws cA base ext mem' := by
  subst hx
  apply List.ext_getElem?
  intro k
  rw [List.getElem?_set]
  unfold m_ws
  rw [List.getElem?_mapIdx, List.getElem?_mapIdx, h1]
  by_cases e : q = k
  · subst e
    rw [hq]
    simp [(List.getElem?_eq_some_iff.mp hq).1]
  · rw [if_neg e]
    cases hk' : mem.1[k]? with
    | none => rfl
    | some sk =>
      show some (base + k, _) = some (base + k, _)
      rw [hk k sk (fun z => e z.symm)]
theorem m_up_ne {α : Type} (f : Nat → α) {k j : Nat} (v : α) (h : j ≠ k) : va_up f k v j = f j := by unfold va_up; rw [if_neg h]
theorem m_up_eq {α : Type} (f : Nat → α) (k : Nat) (v : α) : va_up f k v k = v := by unfold va_up; rw [if_pos rfl]
theorem m_upd (f : Nat → Int32) (k : Nat) (v : Int32) : upd f k v = va_up f k v := rfl
theorem m_updL (f : Nat → Int64) (k : Nat) (v : Int64) : vp_updL f k v = va_up f k v := rfl
theorem m_cell_ne {cA : Nat → ClassId} {base : Nat} {ext : Nat → Nat} {sh0 : List (Nat × Nat)} {mem : mM} {q : Nat} {fi : Nat → Int32} {fl : Nat → Int64} {fr : Nat → Option Nat} {k : Nat} {sk : Nat × Nat} (h : k ≠ q) :
    m_cell cA base ext (sh0, va_up mem.2.1 q fi, mem.2.2.1, mem.2.2.2) k sk = m_cell cA base ext mem k sk ∧ m_cell cA base ext (sh0, mem.2.1, va_up mem.2.2.1 q fl, mem.2.2.2) k sk = m_cell cA base ext mem k sk ∧ m_cell cA base ext (sh0, mem.2.1, mem.2.2.1, va_up mem.2.2.2 q fr) k sk = m_cell cA base ext mem k sk := by
  refine ⟨?_, ?_, ?_⟩ <;> · unfold m_cell m_fs m_arr
                            simp only [m_up_ne _ _ h]
/-- the memory stands in the heap -/
def m_V (D : va_G) (cA : Nat → ClassId) (base : Nat) (ext : Nat → Nat) (mem : mM) (H : Heap) : Prop := va_P D mCL (m_ws cA base ext mem) H
/-- what the start gives: the classes, the arrays' classes, the nest's links, the texts -/
def m_nest : List Cond := lw_tbl.filter fun w => match w with
  | .methodLinkNest .. => true
  | _ => false
def mG : List Cond := lw_tbl.filter goodWord
