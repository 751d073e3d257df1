/-! ===== soundness of one step: fields, rows, making ===== -/
def m_sz (mem : mM) : Nat := (mem.1.map fun sh => sh.2).sum
theorem m_ad_lt {base : Nat} {ext : Nat → Nat} {q : Nat} (h : q < mBIG) : m_ad base ext q = base + q := by unfold m_ad; rw [if_pos h]
theorem m_fs_get {base : Nat} {ext : Nat → Nat} {mem : mM} {ci q k : Nat} (hk : k < m_nf ci) : (m_fs base ext mem ci q)[k]? = some (if m_ft ci k = 1 then va_rf ((mem.2.2.2 q k).map (m_ad base ext)) else .int (mem.2.1 q k)) := by
  unfold m_fs
  rw [List.getElem?_map, List.getElem?_range hk]
  rfl
theorem m_fs_len {base : Nat} {ext : Nat → Nat} {mem : mM} {ci q : Nat} : (m_fs base ext mem ci q).length = m_nf ci := by unfold m_fs; simp
theorem m_fs_setI {base : Nat} {ext : Nat → Nat} {mem : mM} {ci q k : Nat} {x : Int32} (hf : m_ft ci k ≠ 1) : (m_fs base ext mem ci q).set k (.int x) = m_fs base ext (mem.1, va_up mem.2.1 q (va_up (mem.2.1 q) k x), mem.2.2.1, mem.2.2.2) ci q := by
  apply List.ext_getElem?
  intro j
  rw [List.getElem?_set, m_fs_len]
  by_cases hj : j < m_nf ci
  · rw [m_fs_get hj, m_fs_get hj]
    dsimp only
    rw [m_up_eq]
    by_cases e : k = j
    · subst e
      rw [if_pos rfl, if_pos hj, if_neg hf, m_up_eq]
    · rw [if_neg e, m_up_ne _ _ (fun z => e z.symm)]
  · have h1 : ∀ mm : mM, (m_fs base ext mm ci q)[j]? = none := fun mm => List.getElem?_eq_none (by rw [m_fs_len]; omega)
    rw [h1, h1]
    by_cases e : k = j
    · subst e; rw [if_pos rfl, if_neg hj]
    · rw [if_neg e]
theorem m_fs_setR {base : Nat} {ext : Nat → Nat} {mem : mM} {ci q k x : Nat} (hf : m_ft ci k = 1) : (m_fs base ext mem ci q).set k (.ref (m_ad base ext x)) = m_fs base ext (mem.1, mem.2.1, mem.2.2.1, va_up mem.2.2.2 q (va_up (mem.2.2.2 q) k (some x))) ci q := by
  apply List.ext_getElem?
  intro j
  rw [List.getElem?_set, m_fs_len]
  by_cases hj : j < m_nf ci
  · rw [m_fs_get hj, m_fs_get hj]
    dsimp only
    rw [m_up_eq]
    by_cases e : k = j
    · subst e
      rw [if_pos rfl, if_pos hj, if_pos hf, m_up_eq]
      rfl
    · rw [if_neg e, m_up_ne _ _ (fun z => e z.symm)]
  · have h1 : ∀ mm : mM, (m_fs base ext mm ci q)[j]? = none := fun mm => List.getElem?_eq_none (by rw [m_fs_len]; omega)
    rw [h1, h1]
    by_cases e : k = j
    · subst e; rw [if_pos rfl, if_neg hj]
    · rw [if_neg e]
theorem m_cell_obj {cA : Nat → ClassId} {base : Nat} {ext : Nat → Nat} {mem : mM} {q ci n : Nat} (h : ci < 100) : m_cell cA base ext mem q (ci, n) = .inr (ci, m_fs base ext mem ci q) := by unfold m_cell; rw [if_pos h]
theorem m_cell_arr {cA : Nat → ClassId} {base : Nat} {ext : Nat → Nat} {mem : mM} {q t n : Nat} : m_cell cA base ext mem q (100 + t, n) = .inl (cA t, n, m_arr base ext mem t q) := by
  unfold m_cell
  rw [if_neg (by omega)]
  dsimp only
  rw [Nat.add_sub_cancel_left]
theorem m_in_vp {i : Int32} {n : Nat} (h : m_in i n = true) : vp_in i n := by
  unfold m_in at h
  simp only [Bool.and_eq_true, decide_eq_true_eq] at h
  intro z
  rcases z with z | z
  · exact h.1 z
  · omega
section MS
variable {p : Program} {l : Launch} {e : Env} {R : Room} {s : State} {m : MethodId} {args : Array Value} {below : List Frame} {meth : Method} {c : Code} {cells slots : Nat} {Q : State → Prop}
variable {own nm : String} {cc : ByteArray} {nL : Nat} {D : va_G} {cA : Nat → ClassId} {base : Nat} {ext : Nat → Nat} {fm : Value} {pc : Nat} {ls st : List Value} {mem : mM}
theorem ms_getf (C : m_C p s m c args meth own nm cc nL D cA base ext fm) {ci k i q n : Nat} {r : vw_C} (hc : mCL[ci]? = some r) (hk : k < r.2.2) (hw : Cond.fieldLink own i (r.2.1 k).1 (r.2.1 k).2.1 (r.2.1 k).2.2.1 ∈ mG) (hd : decode cc pc = .ok (.getfield i, 3)) (hq : mem.1[q]? = some (ci, n)) (hB : q < mBIG) {v : Value} (hv : v = if m_ft ci k = 1 then va_rf (mem.2.2.2 q k) else .int (mem.2.1 q k)) (kk : m_W p l e R s m args below meth c D cA base ext nL Q (pc + 3) ls (v :: st) mem cells slots) : m_W p l e R s m args below meth c D cA base ext nL Q pc ls (.ref q :: st) mem cells slots := fun H locs rl hl hV hS => by
  obtain ⟨-, -, hin, hN⟩ := m_cls_all ci r hc
  have h100 : ci < 100 := by
    have := (List.getElem?_eq_some_iff.mp hc).1
    simp [mCL] at this
    omega
  show W p l e R s m args below meth c H locs cells slots Q (F0 m pc rl (.ref (m_ad base ext q) :: st.map (m_tr base ext)))
  rw [m_ad_lt hB]
  have he := m_ws_get (cA := cA) (base := base) (ext := ext) hq
  rw [m_cell_obj h100] at he
  refine va_get C.1 C.2.1 C.2.2.2.2.1 hin C.2.2.2.1 C.2.2.2.2.2.1.1 hV q he hc k hk (C.2.2.2.2.1 _ hw) (fun _ h9 => h9) (m_fs_get (by rw [← hN]; exact hk)) hd ?_
  have k1 := kk H locs rl hl hV hS
  rw [List.map_cons, hv] at k1
  by_cases hf : m_ft ci k = 1
  · rw [if_pos hf] at k1 ⊢
    rw [m_rf]
    exact k1
  · rw [if_neg hf] at k1 ⊢
    exact k1
theorem ms_puti (C : m_C p s m c args meth own nm cc nL D cA base ext fm) {ci k i q n : Nat} {r : vw_C} {x : Int32} (hc : mCL[ci]? = some r) (hk : k < r.2.2) (hw : Cond.fieldLink own i (r.2.1 k).1 (r.2.1 k).2.1 (r.2.1 k).2.2.1 ∈ mG) (hfin : (r.2.1 k).2.2.2 = false) {ty : FieldType} (hty : parseFieldDescriptor (r.2.1 k).2.2.1 = some ty) (hnar : narrow ty (.int x) = .int x) (hfit : fits ty (.int x) = true) (hd : decode cc pc = .ok (.putfield i, 3)) (hq : mem.1[q]? = some (ci, n)) (hB : q < mBIG) (hf : m_ft ci k ≠ 1) (kk : m_W p l e R s m args below meth c D cA base ext nL Q (pc + 3) ls st (mem.1, va_up mem.2.1 q (va_up (mem.2.1 q) k x), mem.2.2.1, mem.2.2.2) cells slots) : m_W p l e R s m args below meth c D cA base ext nL Q pc ls (.int x :: .ref q :: st) mem cells slots := fun H locs rl hl hV hS => by
  obtain ⟨⟨ty0, hty0, -⟩, hnm, hin, hN⟩ := m_cls_all ci r hc
  have h100 : ci < 100 := by
    have := (List.getElem?_eq_some_iff.mp hc).1
    simp [mCL] at this
    omega
  show W p l e R s m args below meth c H locs cells slots Q (F0 m pc rl (.int x :: .ref (m_ad base ext q) :: st.map (m_tr base ext)))
  rw [m_ad_lt hB]
  have he := m_ws_get (cA := cA) (base := base) (ext := ext) hq
  rw [m_cell_obj h100] at he
  refine va_put C.1 C.2.1 C.2.2.2.2.1 hin ty0 hty0 hnm C.2.2.2.1 C.2.2.2.2.2.1.1 hV m_ws_D hS q he hc k hk (C.2.2.2.2.1 _ hw) (fun _ h9 => h9) hfin hty hnar hfit (by rw [m_fs_len, ← hN]; exact hk) hd (fun H1 locs1 hP hD hS1 => ?_)
  rw [m_fs_setI hf, m_ws_set (mem' := (mem.1, va_up mem.2.1 q (va_up (mem.2.1 q) k x), mem.2.2.1, mem.2.2.2)) hq rfl (by rw [m_cell_obj h100]) (fun j sj hj => (m_cell_ne (fl := fun _ => 0) (fr := fun _ => none) hj).1)] at hP
  exact kk H1 locs1 rl hl hP hS1
theorem ms_putr (C : m_C p s m c args meth own nm cc nL D cA base ext fm) {ci k i q n x : Nat} {r : vw_C} (hc : mCL[ci]? = some r) (hk : k < r.2.2) (hw : Cond.fieldLink own i (r.2.1 k).1 (r.2.1 k).2.1 (r.2.1 k).2.2.1 ∈ mG) (hfin : (r.2.1 k).2.2.2 = false ∨ (r.2.1 k).2.2.2 = true ∧ nm = "<init>" ∧ (r.2.1 k).1 = own) {ty : FieldType} (hty : parseFieldDescriptor (r.2.1 k).2.2.1 = some ty) (hnar : ∀ z, narrow ty (.ref z) = .ref z) (hfit : ∀ z, fits ty (.ref z) = true) (hd : decode cc pc = .ok (.putfield i, 3)) (hq : mem.1[q]? = some (ci, n)) (hB : q < mBIG) (hf : m_ft ci k = 1) (kk : m_W p l e R s m args below meth c D cA base ext nL Q (pc + 3) ls st (mem.1, mem.2.1, mem.2.2.1, va_up mem.2.2.2 q (va_up (mem.2.2.2 q) k (some x))) cells slots) : m_W p l e R s m args below meth c D cA base ext nL Q pc ls (.ref x :: .ref q :: st) mem cells slots := fun H locs rl hl hV hS => by
  obtain ⟨⟨ty0, hty0, -⟩, hnm, hin, hN⟩ := m_cls_all ci r hc
  have h100 : ci < 100 := by
    have := (List.getElem?_eq_some_iff.mp hc).1
    simp [mCL] at this
    omega
  show W p l e R s m args below meth c H locs cells slots Q (F0 m pc rl (.ref (m_ad base ext x) :: .ref (m_ad base ext q) :: st.map (m_tr base ext)))
  rw [m_ad_lt hB]
  have he := m_ws_get (cA := cA) (base := base) (ext := ext) hq
  rw [m_cell_obj h100] at he
  have fin : ∀ (H1 : Heap) (locs1 : List Loc), va_P D mCL ((m_ws cA base ext mem).set q (base + q, .inr (ci, (m_fs base ext mem ci q).set k (.ref (m_ad base ext x))))) H1 → va_D (m_A base) ((m_ws cA base ext mem).set q (base + q, .inr (ci, (m_fs base ext mem ci q).set k (.ref (m_ad base ext x))))) → va_S (m_A base) s.heap H1 locs1 → W p l e R s m args below meth c H1 locs1 cells slots Q (F0 m (pc + 3) rl (st.map (m_tr base ext))) := by
    intro H1 locs1 hP hD hS1
    rw [m_fs_setR hf, m_ws_set (mem' := (mem.1, mem.2.1, mem.2.2.1, va_up mem.2.2.2 q (va_up (mem.2.2.2 q) k (some x)))) hq rfl (by rw [m_cell_obj h100]) (fun j sj hj => (m_cell_ne (fi := fun _ => 0) (fl := fun _ => 0) hj).2.2)] at hP
    exact kk H1 locs1 rl hl hP hS1
  rcases hfin with hfin | ⟨hfin, hnm2, hdecl⟩
  · exact va_put C.1 C.2.1 C.2.2.2.2.1 hin ty0 hty0 hnm C.2.2.2.1 C.2.2.2.2.2.1.1 hV m_ws_D hS q he hc k hk (C.2.2.2.2.1 _ hw) (fun _ h9 => h9) hfin hty (hnar _) (hfit _) (by rw [m_fs_len, ← hN]; exact hk) hd fin
  · exact va_putF C.1 C.2.1 C.2.2.2.2.1 hin ty0 hty0 hnm C.2.2.2.1 C.2.2.2.2.2.1.1 hV m_ws_D hS q he hc k hk (C.2.2.2.2.1 _ hw) (fun _ h9 => h9) hfin (by rw [C.2.2.2.2.2.2.2.1]; exact hnm2) hdecl hty (hnar _) (hfit _) (by rw [m_fs_len, ← hN]; exact hk) hd fin
theorem ms_iald (C : m_C p s m c args meth own nm cc nL D cA base ext fm) {n q : Nat} {i : Int32} (hd : decode cc pc = .ok (.iaload, 1)) (hq : mem.1[q]? = some (100 + 0, n)) (hB : q < mBIG) (hi : m_in i n = true) (kk : m_W p l e R s m args below meth c D cA base ext nL Q (pc + 1) ls (.int (mem.2.1 q i.toNatClampNeg) :: st) mem cells slots) : m_W p l e R s m args below meth c D cA base ext nL Q pc ls (.int i :: .ref q :: st) mem cells slots := fun H locs rl hl hV hS => by
  show W p l e R s m args below meth c H locs cells slots Q (F0 m pc rl (.int i :: .ref (m_ad base ext q) :: st.map (m_tr base ext)))
  rw [m_ad_lt hB]
  have he := m_ws_get (cA := cA) (base := base) (ext := ext) hq
  rw [m_cell_arr] at he
  exact va_iald C.1 C.2.1 C.2.2.2.2.2.1.1 hV q 0 he rfl (m_in_vp hi) hd (kk H locs rl hl hV hS)
theorem ms_bald (C : m_C p s m c args meth own nm cc nL D cA base ext fm) {n q : Nat} {i : Int32} (hd : decode cc pc = .ok (.baload, 1)) (hq : mem.1[q]? = some (100 + 2, n)) (hB : q < mBIG) (hi : m_in i n = true) (kk : m_W p l e R s m args below meth c D cA base ext nL Q (pc + 1) ls (.int (mem.2.1 q i.toNatClampNeg) :: st) mem cells slots) : m_W p l e R s m args below meth c D cA base ext nL Q pc ls (.int i :: .ref q :: st) mem cells slots := fun H locs rl hl hV hS => by
  show W p l e R s m args below meth c H locs cells slots Q (F0 m pc rl (.int i :: .ref (m_ad base ext q) :: st.map (m_tr base ext)))
  rw [m_ad_lt hB]
  have he := m_ws_get (cA := cA) (base := base) (ext := ext) hq
  rw [m_cell_arr] at he
  exact va_bald C.1 C.2.1 C.2.2.2.2.2.1.1 hV q 2 he rfl (m_in_vp hi) hd (kk H locs rl hl hV hS)
theorem ms_zald (C : m_C p s m c args meth own nm cc nL D cA base ext fm) {n q : Nat} {i : Int32} (hd : decode cc pc = .ok (.baload, 1)) (hq : mem.1[q]? = some (100 + 3, n)) (hB : q < mBIG) (hi : m_in i n = true) (kk : m_W p l e R s m args below meth c D cA base ext nL Q (pc + 1) ls (.int (mem.2.1 q i.toNatClampNeg) :: st) mem cells slots) : m_W p l e R s m args below meth c D cA base ext nL Q pc ls (.int i :: .ref q :: st) mem cells slots := fun H locs rl hl hV hS => by
  show W p l e R s m args below meth c H locs cells slots Q (F0 m pc rl (.int i :: .ref (m_ad base ext q) :: st.map (m_tr base ext)))
  rw [m_ad_lt hB]
  have he := m_ws_get (cA := cA) (base := base) (ext := ext) hq
  rw [m_cell_arr] at he
  exact va_zald C.1 C.2.1 C.2.2.2.2.2.1.1 hV q 3 he rfl (m_in_vp hi) hd (kk H locs rl hl hV hS)
theorem ms_lald (C : m_C p s m c args meth own nm cc nL D cA base ext fm) {n q : Nat} {i : Int32} (hd : decode cc pc = .ok (.laload, 1)) (hq : mem.1[q]? = some (100 + 1, n)) (hB : q < mBIG) (hi : m_in i n = true) (kk : m_W p l e R s m args below meth c D cA base ext nL Q (pc + 1) ls (.long (mem.2.2.1 q i.toNatClampNeg) :: st) mem cells slots) : m_W p l e R s m args below meth c D cA base ext nL Q pc ls (.int i :: .ref q :: st) mem cells slots := fun H locs rl hl hV hS => by
  show W p l e R s m args below meth c H locs cells slots Q (F0 m pc rl (.int i :: .ref (m_ad base ext q) :: st.map (m_tr base ext)))
  rw [m_ad_lt hB]
  have he := m_ws_get (cA := cA) (base := base) (ext := ext) hq
  rw [m_cell_arr] at he
  exact va_lald C.1 C.2.1 C.2.2.2.2.2.1.1 hV q 1 he rfl (m_in_vp hi) hd (kk H locs rl hl hV hS)
theorem ms_aald (C : m_C p s m c args meth own nm cc nL D cA base ext fm) {n q : Nat} {i : Int32} {v : Value} (hd : decode cc pc = .ok (.aaload, 1)) (hq : mem.1[q]? = some (100 + 4, n)) (hB : q < mBIG) (hi : m_in i n = true) (hv : v = va_rf (mem.2.2.2 q i.toNatClampNeg)) (kk : m_W p l e R s m args below meth c D cA base ext nL Q (pc + 1) ls (v :: st) mem cells slots) : m_W p l e R s m args below meth c D cA base ext nL Q pc ls (.int i :: .ref q :: st) mem cells slots := fun H locs rl hl hV hS => by
  show W p l e R s m args below meth c H locs cells slots Q (F0 m pc rl (.int i :: .ref (m_ad base ext q) :: st.map (m_tr base ext)))
  rw [m_ad_lt hB]
  have he := m_ws_get (cA := cA) (base := base) (ext := ext) hq
  rw [m_cell_arr] at he
  refine va_aldq C.1 C.2.1 C.2.2.2.2.2.1.1 hV q 4 he rfl (m_in_vp hi) hd ?_
  have k1 := kk H locs rl hl hV hS
  rw [List.map_cons, hv, ← m_rf] at k1
  exact k1
theorem ms_iast (C : m_C p s m c args meth own nm cc nL D cA base ext fm) {n q : Nat} {i : Int32} {x : Int32} (hd : decode cc pc = .ok (.iastore, 1)) (hq : mem.1[q]? = some (100 + 0, n)) (hB : q < mBIG) (hi : m_in i n = true) (kk : m_W p l e R s m args below meth c D cA base ext nL Q (pc + 1) ls st (mem.1, va_up mem.2.1 q (va_up (mem.2.1 q) i.toNatClampNeg x), mem.2.2.1, mem.2.2.2) cells slots) : m_W p l e R s m args below meth c D cA base ext nL Q pc ls (.int x :: .int i :: .ref q :: st) mem cells slots := fun H locs rl hl hV hS => by
  show W p l e R s m args below meth c H locs cells slots Q (F0 m pc rl (.int x :: .int i :: .ref (m_ad base ext q) :: st.map (m_tr base ext)))
  rw [m_ad_lt hB]
  have he := m_ws_get (cA := cA) (base := base) (ext := ext) hq
  rw [m_cell_arr] at he
  refine va_iast C.1 C.2.1 C.2.2.2.2.2.1.1 hV m_ws_D hS q 0 he rfl (m_in_vp hi) hd (fun H1 locs1 hP hD hS1 => ?_)
  rw [m_ws_set (mem' := (mem.1, va_up mem.2.1 q (va_up (mem.2.1 q) i.toNatClampNeg x), mem.2.2.1, mem.2.2.2)) hq rfl (by rw [m_cell_arr]; unfold m_arr; dsimp only; rw [m_up_eq]; rfl) (fun j sj hj => (m_cell_ne (fl := fun _ => 0) (fr := fun _ => none) hj).1)] at hP
  exact kk H1 locs1 rl hl hP hS1
theorem ms_bast (C : m_C p s m c args meth own nm cc nL D cA base ext fm) {n q : Nat} {i : Int32} {x : Int32} (hd : decode cc pc = .ok (.bastore, 1)) (hq : mem.1[q]? = some (100 + 2, n)) (hB : q < mBIG) (hi : m_in i n = true) (kk : m_W p l e R s m args below meth c D cA base ext nL Q (pc + 1) ls st (mem.1, va_up mem.2.1 q (va_up (mem.2.1 q) i.toNatClampNeg (vp_nar .byte x)), mem.2.2.1, mem.2.2.2) cells slots) : m_W p l e R s m args below meth c D cA base ext nL Q pc ls (.int x :: .int i :: .ref q :: st) mem cells slots := fun H locs rl hl hV hS => by
  show W p l e R s m args below meth c H locs cells slots Q (F0 m pc rl (.int x :: .int i :: .ref (m_ad base ext q) :: st.map (m_tr base ext)))
  rw [m_ad_lt hB]
  have he := m_ws_get (cA := cA) (base := base) (ext := ext) hq
  rw [m_cell_arr] at he
  refine va_bast C.1 C.2.1 C.2.2.2.2.2.1.1 hV m_ws_D hS q 2 he rfl (m_in_vp hi) hd (fun H1 locs1 hP hD hS1 => ?_)
  rw [m_ws_set (mem' := (mem.1, va_up mem.2.1 q (va_up (mem.2.1 q) i.toNatClampNeg (vp_nar .byte x)), mem.2.2.1, mem.2.2.2)) hq rfl (by rw [m_cell_arr]; unfold m_arr; dsimp only; rw [m_up_eq]; rfl) (fun j sj hj => (m_cell_ne (fl := fun _ => 0) (fr := fun _ => none) hj).1)] at hP
  exact kk H1 locs1 rl hl hP hS1
theorem ms_zast (C : m_C p s m c args meth own nm cc nL D cA base ext fm) {n q : Nat} {i : Int32} {x : Int32} (hd : decode cc pc = .ok (.bastore, 1)) (hq : mem.1[q]? = some (100 + 3, n)) (hB : q < mBIG) (hi : m_in i n = true) (kk : m_W p l e R s m args below meth c D cA base ext nL Q (pc + 1) ls st (mem.1, va_up mem.2.1 q (va_up (mem.2.1 q) i.toNatClampNeg (vp_nar .boolean x)), mem.2.2.1, mem.2.2.2) cells slots) : m_W p l e R s m args below meth c D cA base ext nL Q pc ls (.int x :: .int i :: .ref q :: st) mem cells slots := fun H locs rl hl hV hS => by
  show W p l e R s m args below meth c H locs cells slots Q (F0 m pc rl (.int x :: .int i :: .ref (m_ad base ext q) :: st.map (m_tr base ext)))
  rw [m_ad_lt hB]
  have he := m_ws_get (cA := cA) (base := base) (ext := ext) hq
  rw [m_cell_arr] at he
  refine va_zast C.1 C.2.1 C.2.2.2.2.2.1.1 hV m_ws_D hS q 3 he rfl (m_in_vp hi) hd (fun H1 locs1 hP hD hS1 => ?_)
  rw [m_ws_set (mem' := (mem.1, va_up mem.2.1 q (va_up (mem.2.1 q) i.toNatClampNeg (vp_nar .boolean x)), mem.2.2.1, mem.2.2.2)) hq rfl (by rw [m_cell_arr]; unfold m_arr; dsimp only; rw [m_up_eq]; rfl) (fun j sj hj => (m_cell_ne (fl := fun _ => 0) (fr := fun _ => none) hj).1)] at hP
  exact kk H1 locs1 rl hl hP hS1
theorem ms_last (C : m_C p s m c args meth own nm cc nL D cA base ext fm) {n q : Nat} {i : Int32} {x : Int64} (hd : decode cc pc = .ok (.lastore, 1)) (hq : mem.1[q]? = some (100 + 1, n)) (hB : q < mBIG) (hi : m_in i n = true) (kk : m_W p l e R s m args below meth c D cA base ext nL Q (pc + 1) ls st (mem.1, mem.2.1, va_up mem.2.2.1 q (va_up (mem.2.2.1 q) i.toNatClampNeg x), mem.2.2.2) cells slots) : m_W p l e R s m args below meth c D cA base ext nL Q pc ls (.long x :: .int i :: .ref q :: st) mem cells slots := fun H locs rl hl hV hS => by
  show W p l e R s m args below meth c H locs cells slots Q (F0 m pc rl (.long x :: .int i :: .ref (m_ad base ext q) :: st.map (m_tr base ext)))
  rw [m_ad_lt hB]
  have he := m_ws_get (cA := cA) (base := base) (ext := ext) hq
  rw [m_cell_arr] at he
  refine va_last C.1 C.2.1 C.2.2.2.2.2.1.1 hV m_ws_D hS q 1 he rfl (m_in_vp hi) hd (fun H1 locs1 hP hD hS1 => ?_)
  rw [m_ws_set (mem' := (mem.1, mem.2.1, va_up mem.2.2.1 q (va_up (mem.2.2.1 q) i.toNatClampNeg x), mem.2.2.2)) hq rfl (by rw [m_cell_arr]; unfold m_arr; dsimp only; rw [m_up_eq]; rfl) (fun j sj hj => (m_cell_ne (fi := fun _ => 0) (fr := fun _ => none) hj).2.1)] at hP
  exact kk H1 locs1 rl hl hP hS1
theorem ms_aast (C : m_C p s m c args meth own nm cc nL D cA base ext fm) {n q x n2 : Nat} {i : Int32} (hd : decode cc pc = .ok (.aastore, 1)) (hq : mem.1[q]? = some (100 + 4, n)) (hB : q < mBIG) (hx : mem.1[x]? = some (6, n2)) (hBx : x < mBIG) (hi : m_in i n = true) (kk : m_W p l e R s m args below meth c D cA base ext nL Q (pc + 1) ls st (mem.1, mem.2.1, mem.2.2.1, va_up mem.2.2.2 q (va_up (mem.2.2.2 q) i.toNatClampNeg (some x))) cells slots) : m_W p l e R s m args below meth c D cA base ext nL Q pc ls (.ref x :: .int i :: .ref q :: st) mem cells slots := fun H locs rl hl hV hS => by
  show W p l e R s m args below meth c H locs cells slots Q (F0 m pc rl (.ref (m_ad base ext x) :: .int i :: .ref (m_ad base ext q) :: st.map (m_tr base ext)))
  rw [m_ad_lt hB, m_ad_lt hBx]
  have he := m_ws_get (cA := cA) (base := base) (ext := ext) hq
  have hex := m_ws_get (cA := cA) (base := base) (ext := ext) hx
  rw [m_cell_arr] at he
  rw [m_cell_obj (by decide)] at hex
  refine va_astq C.1 C.2.1 C.2.2.2.2.2.1.1 hV m_ws_D hS q 4 x 6 (r := (RX6, TX6, 14)) he rfl hex rfl (m_in_vp hi) hd (fun H1 locs1 hP hD hS1 => ?_)
  rw [m_ws_set (mem' := (mem.1, mem.2.1, mem.2.2.1, va_up mem.2.2.2 q (va_up (mem.2.2.2 q) i.toNatClampNeg (some x)))) hq rfl (by
    rw [m_cell_arr]
    unfold m_arr
    dsimp only
    rw [m_up_eq]
    congr 7
    funext j
    by_cases hj : j = i.toNatClampNeg
    · subst hj
      rw [m_up_eq, m_up_eq, ← m_ad_lt (ext := ext) hBx]
      rfl
    · rw [m_up_ne _ _ hj, m_up_ne _ _ hj]) (fun j sj hj => (m_cell_ne (fi := fun _ => 0) (fl := fun _ => 0) hj).2.2)] at hP
  exact kk H1 locs1 rl hl hP hS1
theorem ms_alen (C : m_C p s m c args meth own nm cc nL D cA base ext fm) {t n q : Nat} {x : Int32} (hd : decode cc pc = .ok (.arraylength, 1)) (ht : t < 5) (hq : mem.1[q]? = some (100 + t, n)) (hB : q < mBIG) (hx : Int32.ofNat n = x) (kk : m_W p l e R s m args below meth c D cA base ext nL Q (pc + 1) ls (.int x :: st) mem cells slots) : m_W p l e R s m args below meth c D cA base ext nL Q pc ls (.ref q :: st) mem cells slots := fun H locs rl hl hV hS => by
  show W p l e R s m args below meth c H locs cells slots Q (F0 m pc rl (.ref (m_ad base ext q) :: st.map (m_tr base ext)))
  rw [m_ad_lt hB]
  have he := m_ws_get (cA := cA) (base := base) (ext := ext) hq
  rw [m_cell_arr] at he
  have k1 := kk H locs rl hl hV hS
  match t, ht, he with
  | 0, _, he => exact va_alen C.1 C.2.1 C.2.2.2.2.2.1.1 hV q 0 he rfl hx hd k1
  | 1, _, he => exact va_alen C.1 C.2.1 C.2.2.2.2.2.1.1 hV q 1 he rfl hx hd k1
  | 2, _, he => exact va_alen C.1 C.2.1 C.2.2.2.2.2.1.1 hV q 2 he rfl hx hd k1
  | 3, _, he => exact va_alen C.1 C.2.1 C.2.2.2.2.2.1.1 hV q 3 he rfl hx hd k1
  | 4, _, he => exact va_alen C.1 C.2.1 C.2.2.2.2.2.1.1 hV q 4 he rfl hx hd k1
theorem ms_slen (C : m_C p s m c args meth own nm cc nL D cA base ext fm) {b L q : Nat} {xs : Nat → Int32} (hX : va_X b L xs s s.heap) (hbl : b < s.heap.size) (hbA : ¬ m_A base b) (hq : m_ad base ext q = b) (hd : decode cc pc = .ok (.arraylength, 1)) (kk : m_W p l e R s m args below meth c D cA base ext nL Q (pc + 1) ls (.int (Int32.ofNat L) :: st) mem cells slots) : m_W p l e R s m args below meth c D cA base ext nL Q pc ls (.ref q :: st) mem cells slots := fun H locs rl hl hV hS => by
  show W p l e R s m args below meth c H locs cells slots Q (F0 m pc rl (.ref (m_ad base ext q) :: st.map (m_tr base ext)))
  rw [hq]
  exact va_slen C.1 C.2.1 hX hbl hbA hS hd (kk H locs rl hl hV hS)
theorem ms_sld (C : m_C p s m c args meth own nm cc nL D cA base ext fm) {b L q : Nat} {xs : Nat → Int32} {i : Int32} (hX : va_X b L xs s s.heap) (hbl : b < s.heap.size) (hbA : ¬ m_A base b) (hq : m_ad base ext q = b) (hi : m_in i L = true) (hd : decode cc pc = .ok (.iaload, 1)) (kk : m_W p l e R s m args below meth c D cA base ext nL Q (pc + 1) ls (.int (xs i.toNatClampNeg) :: st) mem cells slots) : m_W p l e R s m args below meth c D cA base ext nL Q pc ls (.int i :: .ref q :: st) mem cells slots := fun H locs rl hl hV hS => by
  show W p l e R s m args below meth c H locs cells slots Q (F0 m pc rl (.int i :: .ref (m_ad base ext q) :: st.map (m_tr base ext)))
  rw [hq]
  exact va_sld C.1 C.2.1 hX hbl hbA hS (m_in_vp hi) hd (kk H locs rl hl hV hS)
/-- where the next cell comes -/
theorem m_next {H1 : Heap} {q : Nat} {x : va_E} (hP : va_P D mCL (m_ws cA base ext mem ++ [(q, x)]) H1) (hD : va_D (m_A base) (m_ws cA base ext mem ++ [(q, x)])) (hz : H1.size ≤ base + mem.1.length + 1) : q = base + mem.1.length := by
  have hlen : (m_ws cA base ext mem).length = mem.1.length := by unfold m_ws; simp
  have hlast : (m_ws cA base ext mem ++ [(q, x)])[mem.1.length]? = some (q, x) := by rw [List.getElem?_append_right (by omega), hlen]; simp
  have h1 : q < H1.size := (hP _ _ hlast).lt
  have h2 : base ≤ q := hD.2 _ _ hlast
  apply Classical.byContradiction
  intro hne
  have hlt : q - base < mem.1.length := by omega
  obtain ⟨sh, hsh⟩ : ∃ sh, mem.1[q - base]? = some sh := ⟨_, List.getElem?_eq_getElem hlt⟩
  have h3 := m_ws_get (cA := cA) (base := base) (ext := ext) hsh
  have h4 : (m_ws cA base ext mem ++ [(q, x)])[q - base]? = some (base + (q - base), m_cell cA base ext mem (q - base) sh) := by rw [List.getElem?_append_left (by omega)]; exact h3
  have h5 := hD.1 _ _ _ _ h4 hlast (by dsimp only; omega)
  omega
theorem m_ws_push {mem' : mM} {sh : Nat × Nat} (h1 : mem'.1 = mem.1 ++ [sh]) (hk : ∀ k sk, k ≠ mem.1.length → m_cell cA base ext mem' k sk = m_cell cA base ext mem k sk) : m_ws cA base ext mem' = m_ws cA base ext mem ++ [(base + mem.1.length, m_cell cA base ext mem' mem.1.length sh)] := by
  unfold m_ws
  rw [h1, List.mapIdx_append]
  refine congr (congrArg _ ?_) (by simp)
  apply List.ext_getElem?
  intro k
  rw [List.getElem?_mapIdx, List.getElem?_mapIdx]
  cases hq : mem.1[k]? with
  | none => rfl
  | some sk =>
    have := (List.getElem?_eq_some_iff.mp hq).1
    show some (base + k, _) = some (base + k, _)
    rw [hk k sk (by omega)]
theorem W_sized {H : Heap} {locs : List Loc} {g : JFrame} (k : H.size ≤ s.heap.size + cells → W p l e R s m args below meth c H locs cells slots Q g) : W p l e R s m args below meth c H locs cells slots Q g := fun T hT X => k (by rw [← hT]; exact X.heapSize) T hT X
theorem ms_new (C : m_C p s m c args meth own nm cc nL D cA base ext fm) {ci i : Nat} {r : vw_C} (hc : mCL[ci]? = some r) (hw1 : Cond.classLink own i r.1 ∈ mG) (hw2 : Cond.instantiable r.1 r.2.2 ∈ mG) (hw3 : Cond.initialized r.1 ∈ mG) (hd : decode cc pc = .ok (.new i, 3)) (hB : mem.1.length < mBIG) (hsz : s.heap.size + cells = base + mem.1.length) (hcl : cells + 1 ≤ R.cells) (hsl : slots + m_nf ci ≤ R.slots)
    (kk : m_W p l e R s m args below meth c D cA base ext nL Q (pc + 3) ls (.ref mem.1.length :: st) (mem.1 ++ [(ci, m_nf ci)], va_up mem.2.1 mem.1.length (fun _ => 0), mem.2.2.1, va_up mem.2.2.2 mem.1.length (fun _ => none)) (cells + 1) (slots + m_nf ci)) : m_W p l e R s m args below meth c D cA base ext nL Q pc ls st mem cells slots := fun H locs rl hl hV hS => by
  obtain ⟨⟨ty0, hty0, hdef⟩, hnm, hin, hN⟩ := m_cls_all ci r hc
  have h100 : ci < 100 := by
    have := (List.getElem?_eq_some_iff.mp hc).1
    simp [mCL] at this
    omega
  refine va_new (R := R) (ci := ci) (C := r.1) (T := r.2.1) (N := r.2.2) (fs := m_fs base ext (mem.1, va_up mem.2.1 mem.1.length (fun _ => 0), mem.2.2.1, va_up mem.2.2.2 mem.1.length (fun _ => none)) ci mem.1.length) C.1 C.2.1 C.2.2.2.2.1 hin ty0 hty0 C.2.2.2.1 (C.2.2.2.2.1 _ hw1) (C.2.2.2.2.1 _ hw2) (C.2.2.2.2.1 _ hw3) C.2.2.2.2.2.1.1 hV m_ws_D hS (fun q h => Nat.le_trans C.2.2.2.2.2.2.1 h) hc (fun j hj => ?_) hcl (by rw [hN]; exact hsl) hd (fun q H1 hP hD hS1 => W_sized fun hz => ?_)
  · rw [hdef j hj]
    unfold vp_V
    rw [List.getD_eq_getElem?_getD, m_fs_get (by rw [← hN]; exact hj)]
    dsimp only
    rw [m_up_eq, m_up_eq]
    by_cases hf : m_ft ci j = 1
    · rw [if_pos hf]; simp [hf, va_rf]
    · rw [if_neg hf]; simp [hf]
  · have hq : q = base + mem.1.length := m_next hP hD (by omega)
    subst hq
    rw [hN]
    have k1 := kk H1 locs rl hl
    rw [List.map_cons, m_tr_ref, m_ad_lt hB] at k1
    refine k1 ?_ hS1
    unfold m_V
    rw [m_ws_push (mem := mem) (sh := (ci, m_nf ci)) rfl (fun k sk hk => ?_), m_cell_obj h100]
    · exact hP
    · unfold m_cell m_fs m_arr
      simp only [m_up_ne _ _ hk]
theorem m_ra {ty : FieldType} {a b : ClassId} {U : State} (h1 : va_RA U a ty) (h2 : va_RA U b ty) : a = b := by
  cases ty with
  | object C =>
    obtain ⟨_, _, _, _, _, e1⟩ := h1
    obtain ⟨_, _, _, _, _, e2⟩ := h2
    exact Option.some.inj (e1.symm.trans e2)
  | _ => exact Option.some.inj (Eq.trans (Eq.symm h1) h2)
theorem m_arr_push {t n : Nat} {sh : List (Nat × Nat)} (k : Nat) (sk : Nat × Nat) (hk : k ≠ mem.1.length) : m_cell cA base ext (sh, va_up mem.2.1 mem.1.length (fun _ => 0), va_up mem.2.2.1 mem.1.length (fun _ => 0), va_up mem.2.2.2 mem.1.length (fun _ => none)) k sk = m_cell cA base ext mem k sk := by
  unfold m_cell m_fs m_arr
  simp only [m_up_ne _ _ hk]
theorem ms_newa (C : m_C p s m c args meth own nm cc nL D cA base ext fm) {t : Nat} {at0 : ArrayType} {ty : FieldType} (hat : newarray.typeOf at0 = ty) (htt : (m_tys cA)[t]? = some (cA t, ty)) (ht : t < 4) {a0 : vp_A} {n : Int32} {N : Nat} (hn : ¬ n < 0) (hN : n.toNatClampNeg = N) (hbig : N ≤ 100000) (hcb : componentBytes ty ≤ 8) (hw : Cond.arrayClass ty ∈ mG) (hd : decode cc pc = .ok (.newarray at0, 2)) (ha0 : a0 = (N, m_arr base ext (mem.1, va_up mem.2.1 mem.1.length (fun _ => 0), va_up mem.2.2.1 mem.1.length (fun _ => 0), va_up mem.2.2.2 mem.1.length (fun _ => none)) t mem.1.length)) (ha : ∀ cB : ClassId, vp_cell cB a0 = arrV cB N (fun _ => defaultValue ty)) (hB : mem.1.length < mBIG) (hsz : s.heap.size + cells = base + mem.1.length) (hcl : cells + 1 ≤ R.cells) (hsl : slots + N ≤ R.slots)
    (kk : m_W p l e R s m args below meth c D cA base ext nL Q (pc + 2) ls (.ref mem.1.length :: st) (mem.1 ++ [(100 + t, N)], va_up mem.2.1 mem.1.length (fun _ => 0), va_up mem.2.2.1 mem.1.length (fun _ => 0), va_up mem.2.2.2 mem.1.length (fun _ => none)) (cells + 1) (slots + N)) : m_W p l e R s m args below meth c D cA base ext nL Q pc ls (.int n :: st) mem cells slots := fun H locs rl hl hV hS => by
  subst hat
  refine va_newa (R := R) (a0 := a0) C.1 C.2.1 (C.2.2.2.2.1 _ hw) rfl C.2.2.2.2.2.1.1 hV m_ws_D hS (fun q h => Nat.le_trans C.2.2.2.2.2.2.1 h) ha hn hN ?_ hcl hsl hd (fun q cB H1 hK1 hP hD hS1 => W_sized fun hz => ?_)
  · exact Nat.le_trans (Nat.mul_le_mul hbig hcb) (by decide)
  · have hq : q = base + mem.1.length := m_next hP hD (by omega)
    subst hq
    have hcB : cB = cA t := m_ra (hK1.2 _ _ (List.getElem?_concat_length ..)).2 (C.2.2.2.2.2.1.1.2 t _ htt).2
    subst hcB
    have k1 := kk H1 locs rl hl
    rw [List.map_cons, m_tr_ref, m_ad_lt hB] at k1
    refine k1 ?_ hS1
    unfold m_V
    rw [m_ws_push (mem := mem) (sh := (100 + t, N)) rfl (fun k sk hk => m_arr_push (t := t) (n := N) k sk hk), m_cell_arr, ha0] at *
    rw [ha0] at hP
    exact hP
theorem ms_newq (C : m_C p s m c args meth own nm cc nL D cA base ext fm) {i : Nat} {n : Int32} {N : Nat} (hn : ¬ n < 0) (hN : n.toNatClampNeg = N) (hbig : N ≤ 100000) (hw : Cond.classLink own i RX6 ∈ mG) (hd : decode cc pc = .ok (.anewarray i, 3)) (hB : mem.1.length < mBIG) (hsz : s.heap.size + cells = base + mem.1.length) (hcl : cells + 1 ≤ R.cells) (hsl : slots + N ≤ R.slots)
    (kk : m_W p l e R s m args below meth c D cA base ext nL Q (pc + 3) ls (.ref mem.1.length :: st) (mem.1 ++ [(100 + 4, N)], va_up mem.2.1 mem.1.length (fun _ => 0), va_up mem.2.2.1 mem.1.length (fun _ => 0), va_up mem.2.2.2 mem.1.length (fun _ => none)) (cells + 1) (slots + N)) : m_W p l e R s m args below meth c D cA base ext nL Q pc ls (.int n :: st) mem cells slots := fun H locs rl hl hV hS => by
  refine va_newq (R := R) C.1 C.2.1 C.2.2.2.1 (C.2.2.2.2.1 _ hw) C.2.2.2.2.2.1.2.2.1 C.2.2.2.2.2.1.1 hV m_ws_D hS (fun q h => Nat.le_trans C.2.2.2.2.2.2.1 h) hn hN (by omega) hcl hsl hd (fun q cB H1 hK1 hP hD hS1 => W_sized fun hz => ?_)
  have hq : q = base + mem.1.length := m_next hP hD (by omega)
  subst hq
  have hcB : cB = cA 4 := m_ra (hK1.2 _ _ (List.getElem?_concat_length ..)).2 (C.2.2.2.2.2.1.1.2 4 _ rfl).2
  subst hcB
  have k1 := kk H1 locs rl hl
  rw [List.map_cons, m_tr_ref, m_ad_lt hB] at k1
  refine k1 ?_ hS1
  unfold m_V
  rw [m_ws_push (mem := mem) (sh := (100 + 4, N)) rfl (fun k sk hk => m_arr_push (t := 4) (n := N) k sk hk), m_cell_arr]
  have e4 : m_arr base ext (mem.1 ++ [(100 + 4, N)], va_up mem.2.1 mem.1.length (fun _ => 0), va_up mem.2.2.1 mem.1.length (fun _ => 0), va_up mem.2.2.2 mem.1.length (fun _ => none)) 4 mem.1.length = .inr (.inr (.inr (.inr (fun _ => none)))) := by
    show Sum.inr (Sum.inr (Sum.inr (Sum.inr fun j => Option.map (m_ad base ext) (va_up mem.2.2.2 mem.1.length (fun _ => none) mem.1.length j)))) = _
    rw [m_up_eq]
    rfl
  rw [e4]
  exact hP
end MS
