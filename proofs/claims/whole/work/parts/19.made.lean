/-! ===== the constructors (written by wip/whole/gen/gen18.py) ===== -/
def m_nw (b a : Nat) (mem : mM) : mM := (mem.1 ++ [(b, m_nf b)], va_up mem.2.1 a (fun _ => 0), mem.2.2.1, va_up mem.2.2.2 a (fun _ => none))
def m_na (t n a : Nat) (mem : mM) : mM := (mem.1 ++ [(100 + t, n)], va_up mem.2.1 a (fun _ => 0), va_up mem.2.2.1 a (fun _ => 0), va_up mem.2.2.2 a (fun _ => none))
def m_pr (q c r : Nat) (mem : mM) : mM := (mem.1, mem.2.1, mem.2.2.1, va_up mem.2.2.2 q (va_up (mem.2.2.2 q) c (some r)))
def m_pi (q c : Nat) (v : Int32) (mem : mM) : mM := (mem.1, va_up mem.2.1 q (va_up (mem.2.1 q) c v), mem.2.2.1, mem.2.2.2)
def m_pj (q c : Nat) (v : Int64) (mem : mM) : mM := (mem.1, mem.2.1, va_up mem.2.2.1 q (va_up (mem.2.2.1 q) c v), mem.2.2.2)
theorem m_nw_at {b a q : Nat} {mem : mM} {s : Nat × Nat} (h : mem.1[q]? = some s) : (m_nw b a mem).1[q]? = some s := by
  show (mem.1 ++ _)[q]? = _
  rw [List.getElem?_append_left (List.getElem?_eq_some_iff.mp h).1]; exact h
theorem m_na_at {t n a q : Nat} {mem : mM} {s : Nat × Nat} (h : mem.1[q]? = some s) : (m_na t n a mem).1[q]? = some s := by
  show (mem.1 ++ _)[q]? = _
  rw [List.getElem?_append_left (List.getElem?_eq_some_iff.mp h).1]; exact h
theorem m_nw_new {b a : Nat} {mem : mM} (h : mem.1.length = a) : (m_nw b a mem).1[a]? = some (b, m_nf b) := by
  show (mem.1 ++ _)[a]? = _
  rw [List.getElem?_append_right (by omega), h, Nat.sub_self]; rfl
theorem m_na_new {t n a : Nat} {mem : mM} (h : mem.1.length = a) : (m_na t n a mem).1[a]? = some (100 + t, n) := by
  show (mem.1 ++ _)[a]? = _
  rw [List.getElem?_append_right (by omega), h, Nat.sub_self]; rfl
theorem m_nw_len {b a : Nat} {mem : mM} (h : mem.1.length = a) : (m_nw b a mem).1.length = a + 1 := by
  show (mem.1 ++ _).length = _
  simp [h]
theorem m_na_len {t n a : Nat} {mem : mM} (h : mem.1.length = a) : (m_na t n a mem).1.length = a + 1 := by
  show (mem.1 ++ _).length = _
  simp [h]
section MC
variable {fm : Value} {L : Nat} {xs : Nat → Int32} {α : Type} {g : α → Value × mM} {pg : List (Nat × mO)} {pc u d : Nat} {v : Value} {ts : List Nat} {ls st : List Value} {mem : mM} {A : Option α}
theorem mS_nw {b a : Nat} (hl : pg.lookup pc = some (17, u, b, d, v, ts)) (ha : mem.1.length = a) (hB : a < mBIG) (k : mS fm L xs g pg (pc + 3) ls (.ref a :: st) (m_nw b a mem) A) : mS fm L xs g pg pc ls st mem A :=
  mS_one hl (by decide) (by simp only [m_step]; rw [ha, if_pos hB]; rfl) k
theorem mS_na {t a N : Nat} {n : Int32} (hl : pg.lookup pc = some (18, u, t, d, v, ts)) (ha : mem.1.length = a) (hB : a < mBIG) (hn : ¬ n < 0) (hN : n.toNatClampNeg = N) (hb : N ≤ 100000) (k : mS fm L xs g pg (pc + u) ls (.ref a :: st) (m_na t N a mem) A) : mS fm L xs g pg pc ls (.int n :: st) mem A :=
  mS_one hl (by decide) (by simp only [m_step]; rw [ha, hN, if_pos ⟨hB, hn, hb⟩]; rfl) k
theorem mS_prg {b c q r n : Nat} (hl : pg.lookup pc = some (13, u, b, c, v, ts)) (hq : mem.1[q]? = some (b, n)) (hB : q < mBIG) (hf : m_ft b c = 1) (k : mS fm L xs g pg (pc + 3) ls st (m_pr q c r mem) A) : mS fm L xs g pg pc ls (.ref r :: .ref q :: st) mem A :=
  mS_one hl (by decide) (by simp only [m_step]; rw [hq]; dsimp only; rw [if_pos ⟨rfl, hB, hf⟩]; rfl) k
theorem mS_pig {b c q n : Nat} {z : Int32} (hl : pg.lookup pc = some (13, u, b, c, v, ts)) (hq : mem.1[q]? = some (b, n)) (hB : q < mBIG) (hf : m_ft b c = 0) (k : mS fm L xs g pg (pc + 3) ls st (m_pi q c z mem) A) : mS fm L xs g pg pc ls (.int z :: .ref q :: st) mem A :=
  mS_one hl (by decide) (by simp only [m_step]; rw [hq]; dsimp only; rw [if_pos ⟨rfl, hB⟩, hf]; rfl) k
theorem mS_getg {b c q n r : Nat} (hl : pg.lookup pc = some (12, u, b, c, v, ts)) (hq : mem.1[q]? = some (b, n)) (hB : q < mBIG) (hf : m_ft b c = 1) (hr : mem.2.2.2 q c = some r) (k : mS fm L xs g pg (pc + 3) ls (.ref r :: st) mem A) : mS fm L xs g pg pc ls (.ref q :: st) mem A :=
  mS_one hl (by decide) (by
    simp only [m_step]; rw [hq]; dsimp only; rw [if_pos ⟨rfl, hB⟩, hf]
    show (match mem.2.2.2 q c with
      | some z => some (pc + 3, ls, Value.ref z :: st, mem)
      | none => some (pc + 3, ls, Value.null :: st, mem)) = _
    rw [hr]) k
theorem mS_aag {q n r N c : Nat} {i : Int32} (hl : pg.lookup pc = some (15, u, 4, d, v, ts)) (hq : mem.1[q]? = some (100 + 4, n)) (hB : q < mBIG) (hr : mem.1[r]? = some (6, N)) (hBr : r < mBIG) (hi : m_in i n = true) (hc : i.toNatClampNeg = c) (k : mS fm L xs g pg (pc + 1) ls st (m_pr q c r mem) A) : mS fm L xs g pg pc ls (.ref r :: .int i :: .ref q :: st) mem A :=
  mS_one hl (by decide) (by simp only [m_step]; rw [hq, hr]; dsimp only; rw [if_pos ⟨rfl, hB, hBr, hi, trivial, rfl⟩, hc]; rfl) k
theorem mS_ljg {q n c : Nat} {i : Int32} {z : Int64} (hl : pg.lookup pc = some (15, u, 1, d, v, ts)) (hq : mem.1[q]? = some (100 + 1, n)) (hB : q < mBIG) (hi : m_in i n = true) (hc : i.toNatClampNeg = c) (k : mS fm L xs g pg (pc + 1) ls st (m_pj q c z mem) A) : mS fm L xs g pg pc ls (.long z :: .int i :: .ref q :: st) mem A :=
  mS_one hl (by decide) (by simp only [m_step]; rw [hq]; dsimp only; rw [if_pos ⟨rfl, hB, hi, trivial⟩, hc]; rfl) k
theorem mS_nwL {b a : Nat} (hl : pg.lookup pc = some (17, u, b, d, v, ts)) (ha : mem.1.length = a) (hB : a < mBIG) (k : ∀ m', m' = m_nw b a mem → m'.1.length = a + 1 → m'.1[a]? = some (b, m_nf b) → (∀ (q : Nat) (s : Nat × Nat), mem.1[q]? = some s → m'.1[q]? = some s) → mS fm L xs g pg (pc + 3) ls (.ref a :: st) m' A) : mS fm L xs g pg pc ls st mem A :=
  mS_nw hl ha hB (k _ rfl (m_nw_len ha) (m_nw_new ha) (fun _ _ h => m_nw_at h))
theorem mS_naL {t a N : Nat} {n : Int32} (hl : pg.lookup pc = some (18, u, t, d, v, ts)) (ha : mem.1.length = a) (hB : a < mBIG) (hn : ¬ n < 0) (hN : n.toNatClampNeg = N) (hb : N ≤ 100000) (k : ∀ m', m' = m_na t N a mem → m'.1.length = a + 1 → m'.1[a]? = some (100 + t, N) → (∀ (q : Nat) (s : Nat × Nat), mem.1[q]? = some s → m'.1[q]? = some s) → mS fm L xs g pg (pc + u) ls (.ref a :: st) m' A) : mS fm L xs g pg pc ls (.int n :: st) mem A :=
  mS_na hl ha hB hn hN hb (k _ rfl (m_na_len ha) (m_na_new ha) (fun _ _ h => m_na_at h))
theorem mS_genM {M : mM} {n : Nat} (hlen : M.1.length = n) (hat : ∀ (q : Nat) (s : Nat × Nat), mem.1[q]? = some s → M.1[q]? = some s) (k : ∀ m', m' = M → m'.1.length = n → (∀ (q : Nat) (s : Nat × Nat), mem.1[q]? = some s → m'.1[q]? = some s) → mS fm L xs g pg pc ls st m' A) : mS fm L xs g pg pc ls st M A := k M rfl hlen hat
end MC
theorem m_up_ge {α : Type} {f : Nat → α} {v : α} {k n q : Nat} (hk : k < n) (h : n ≤ q) : va_up f k v q = f q := m_up_ne _ _ (by omega)
theorem m_nw_ge {b a n q : Nat} {mem : mM} (ha : a < n) (h : n ≤ q) : (m_nw b a mem).2.2.2 q = mem.2.2.2 q := m_up_ge ha h
theorem m_na_ge {t N a n q : Nat} {mem : mM} (ha : a < n) (h : n ≤ q) : (m_na t N a mem).2.2.2 q = mem.2.2.2 q := m_up_ge ha h
theorem m_pr_ge {q' c r n q : Nat} {mem : mM} (ha : q' < n) (h : n ≤ q) : (m_pr q' c r mem).2.2.2 q = mem.2.2.2 q := m_up_ge ha h
theorem m_pi_ge {q' c q : Nat} {z : Int32} {mem : mM} : (m_pi q' c z mem).2.2.2 q = mem.2.2.2 q := rfl
theorem m_pj_ge {q' c q : Nat} {z : Int64} {mem : mM} : (m_pj q' c z mem).2.2.2 q = mem.2.2.2 q := rfl
def f_X11_letters (p0 : Int32) (p1 : Int32) (p2 : Int32) (p3 : Int32) (p4 : Int32) (p5 : Int32) (p6 : Int32) : Option Int64 := ((f_X11_appends (0 : Int64) p0).bind fun q1 => ((f_X11_appends q1 p1).bind fun q2 => ((f_X11_appends q2 p2).bind fun q3 => ((f_X11_appends q3 p3).bind fun q4 => ((f_X11_appends q4 p4).bind fun q5 => ((f_X11_appends q5 p5).bind fun q6 => ((f_X11_appends q6 p6).bind fun q7 => (some q7))))))))
set_option maxRecDepth 20000 in
theorem f_X11_letters_snd {fm : Value} {L : Nat} {xs : Nat → Int32} (p0 : Int32) (p1 : Int32) (p2 : Int32) (p3 : Int32) (p4 : Int32) (p5 : Int32) (p6 : Int32) (mem : mM) : mS fm L xs (fun r : Int64 => (.long r, mem)) pg_X11_letters 0 (m_entry [.int p0, .int p1, .int p2, .int p3, .int p4, .int p5, .int p6] 7) [] mem ((f_X11_letters p0 p1 p2 p3 p4 p5 p6)) := by
  unfold f_X11_letters
  refine mS_steps (pc' := 0) (ls' := [.int p0, .int p1, .int p2, .int p3, .int p4, .int p5, .int p6]) (st' := []) (mem' := mem) 0 rfl ?_
  refine mS_steps (pc' := 2) (ls' := [.int p0, .int p1, .int p2, .int p3, .int p4, .int p5, .int p6]) (st' := [.int p0, .long (0 : Int64)]) (mem' := mem) 2 rfl ?_
  refine mS_bind (fun q1 hq1 => mS_call 11 2 [.long (0 : Int64), .int p0] [] rfl rfl rfl ⟨_, _, _, rfl, rfl⟩ (Nat.le_of_ble_eq_true rfl) (Nat.le_of_ble_eq_true rfl) hq1 (f_X11_appends_snd (0 : Int64) p0 mem) ?_)
  refine mS_steps (pc' := 6) (ls' := [.int p0, .int p1, .int p2, .int p3, .int p4, .int p5, .int p6]) (st' := [.int p1, .long q1]) (mem' := mem) 1 rfl ?_
  refine mS_bind (fun q2 hq2 => mS_call 11 2 [.long q1, .int p1] [] rfl rfl rfl ⟨_, _, _, rfl, rfl⟩ (Nat.le_of_ble_eq_true rfl) (Nat.le_of_ble_eq_true rfl) hq2 (f_X11_appends_snd q1 p1 mem) ?_)
  refine mS_steps (pc' := 10) (ls' := [.int p0, .int p1, .int p2, .int p3, .int p4, .int p5, .int p6]) (st' := [.int p2, .long q2]) (mem' := mem) 1 rfl ?_
  refine mS_bind (fun q3 hq3 => mS_call 11 2 [.long q2, .int p2] [] rfl rfl rfl ⟨_, _, _, rfl, rfl⟩ (Nat.le_of_ble_eq_true rfl) (Nat.le_of_ble_eq_true rfl) hq3 (f_X11_appends_snd q2 p2 mem) ?_)
  refine mS_steps (pc' := 14) (ls' := [.int p0, .int p1, .int p2, .int p3, .int p4, .int p5, .int p6]) (st' := [.int p3, .long q3]) (mem' := mem) 1 rfl ?_
  refine mS_bind (fun q4 hq4 => mS_call 11 2 [.long q3, .int p3] [] rfl rfl rfl ⟨_, _, _, rfl, rfl⟩ (Nat.le_of_ble_eq_true rfl) (Nat.le_of_ble_eq_true rfl) hq4 (f_X11_appends_snd q3 p3 mem) ?_)
  refine mS_steps (pc' := 19) (ls' := [.int p0, .int p1, .int p2, .int p3, .int p4, .int p5, .int p6]) (st' := [.int p4, .long q4]) (mem' := mem) 1 rfl ?_
  refine mS_bind (fun q5 hq5 => mS_call 11 2 [.long q4, .int p4] [] rfl rfl rfl ⟨_, _, _, rfl, rfl⟩ (Nat.le_of_ble_eq_true rfl) (Nat.le_of_ble_eq_true rfl) hq5 (f_X11_appends_snd q4 p4 mem) ?_)
  refine mS_steps (pc' := 24) (ls' := [.int p0, .int p1, .int p2, .int p3, .int p4, .int p5, .int p6]) (st' := [.int p5, .long q5]) (mem' := mem) 1 rfl ?_
  refine mS_bind (fun q6 hq6 => mS_call 11 2 [.long q5, .int p5] [] rfl rfl rfl ⟨_, _, _, rfl, rfl⟩ (Nat.le_of_ble_eq_true rfl) (Nat.le_of_ble_eq_true rfl) hq6 (f_X11_appends_snd q5 p5 mem) ?_)
  refine mS_steps (pc' := 29) (ls' := [.int p0, .int p1, .int p2, .int p3, .int p4, .int p5, .int p6]) (st' := [.int p6, .long q6]) (mem' := mem) 1 rfl ?_
  refine mS_bind (fun q7 hq7 => mS_call 11 2 [.long q6, .int p6] [] rfl rfl rfl ⟨_, _, _, rfl, rfl⟩ (Nat.le_of_ble_eq_true rfl) (Nat.le_of_ble_eq_true rfl) hq7 (f_X11_appends_snd q6 p6 mem) ?_)
  refine mS_steps (pc' := 32) (ls' := [.int p0, .int p1, .int p2, .int p3, .int p4, .int p5, .int p6]) (st' := [.long q7]) (mem' := mem) 0 rfl ?_
  exact mS_retl ⟨_, _, _, _, _, rfl⟩ rfl
def c_X6_init (q a : Nat) (mem : mM) : mM := (m_pr q 13 (a + 3) (m_na 0 16 (a + 3) (m_pr q 12 (a + 2) (m_na 0 16 (a + 2) (m_pr q 11 (a + 1) (m_na 0 16 (a + 1) (m_pr q 10 a (m_na 0 16 a mem))))))))
theorem c_X6_init_sh (q a : Nat) (mem : mM) : (c_X6_init q a mem).1 = mem.1 ++ [(100, 16), (100, 16), (100, 16), (100, 16)] := by
  show _ = _
  simp only [c_X6_init, m_nw, m_na, m_pr, m_pi, m_pj, List.append_assoc, List.cons_append, List.nil_append]
  try rfl
theorem c_X6_init_at {q a k : Nat} {mem : mM} {s : Nat × Nat} (h : mem.1[k]? = some s) : (c_X6_init q a mem).1[k]? = some s := by
  rw [c_X6_init_sh, List.getElem?_append_left (List.getElem?_eq_some_iff.mp h).1]; exact h
theorem c_X6_init_len {q a n : Nat} {mem : mM} (h : mem.1.length = n) : (c_X6_init q a mem).1.length = n + 4 := by
  rw [c_X6_init_sh, List.length_append, h]; rfl
theorem c_X6_init_ge {q a n k : Nat} {mem : mM} (hq : q < n) (ha : a + 4 ≤ n) (h : n ≤ k) : (c_X6_init q a mem).2.2.2 k = mem.2.2.2 k := ((m_pr_ge (by omega) h).trans ((m_na_ge (by omega) h).trans ((m_pr_ge (by omega) h).trans ((m_na_ge (by omega) h).trans ((m_pr_ge (by omega) h).trans ((m_na_ge (by omega) h).trans ((m_pr_ge (by omega) h).trans (m_na_ge (by omega) h))))))))
set_option maxRecDepth 20000 in
set_option maxHeartbeats 4000000 in
theorem c_X6_init_snd {fm : Value} {L : Nat} {xs : Nat → Int32} (q a : Nat) (mem : mM) (hq : mem.1[q]? = some (6, 14)) (hl : mem.1.length = a) (hB : a < 900000) : mS fm L xs (fun _ : Unit => (mU, c_X6_init q a mem)) pg_X6_init 0 (m_entry [.ref q] 1) [] mem (some ()) := by
  have hqa : q < a := hl ▸ (List.getElem?_eq_some_iff.mp hq).1
  have hBB : (900100 : Nat) < mBIG := by decide
  refine mS_steps (pc' := 7) (ls' := [.ref q]) (st' := [.int (16 : Int32), .ref q]) (mem' := mem) 4 rfl ?_
  refine mS_naL (a := a) (N := 16) rfl hl (by omega) (by decide) (by decide) (by decide) (fun m1 e1 l1 n1 k1 => ?_)
  have f1_0 := k1 _ _ hq
  refine mS_steps (pc' := 9) (ls' := [.ref q]) (st' := [.ref a, .ref q]) (mem' := m1) 0 rfl ?_
  refine mS_prg rfl f1_0 (by omega) (by decide) ?_
  refine mS_genM (mem := m1) l1 (fun _ _ h => h) (fun m2 e2 l2 k2 => ?_)
  have f2_0 := k2 _ _ f1_0
  have f2_1 := k2 _ _ n1
  refine mS_steps (pc' := 15) (ls' := [.ref q]) (st' := [.int (16 : Int32), .ref q]) (mem' := m2) 2 rfl ?_
  refine mS_naL (a := (a + 1)) (N := 16) rfl l2 (by omega) (by decide) (by decide) (by decide) (fun m3 e3 l3 n3 k3 => ?_)
  have f3_0 := k3 _ _ f2_0
  have f3_1 := k3 _ _ f2_1
  refine mS_steps (pc' := 17) (ls' := [.ref q]) (st' := [.ref (a + 1), .ref q]) (mem' := m3) 0 rfl ?_
  refine mS_prg rfl f3_0 (by omega) (by decide) ?_
  refine mS_genM (mem := m3) l3 (fun _ _ h => h) (fun m4 e4 l4 k4 => ?_)
  have f4_0 := k4 _ _ f3_0
  have f4_1 := k4 _ _ f3_1
  have f4_2 := k4 _ _ n3
  refine mS_steps (pc' := 23) (ls' := [.ref q]) (st' := [.int (16 : Int32), .ref q]) (mem' := m4) 2 rfl ?_
  refine mS_naL (a := (a + 2)) (N := 16) rfl l4 (by omega) (by decide) (by decide) (by decide) (fun m5 e5 l5 n5 k5 => ?_)
  have f5_0 := k5 _ _ f4_0
  have f5_1 := k5 _ _ f4_1
  have f5_2 := k5 _ _ f4_2
  refine mS_steps (pc' := 25) (ls' := [.ref q]) (st' := [.ref (a + 2), .ref q]) (mem' := m5) 0 rfl ?_
  refine mS_prg rfl f5_0 (by omega) (by decide) ?_
  refine mS_genM (mem := m5) l5 (fun _ _ h => h) (fun m6 e6 l6 k6 => ?_)
  have f6_0 := k6 _ _ f5_0
  have f6_1 := k6 _ _ f5_1
  have f6_2 := k6 _ _ f5_2
  have f6_3 := k6 _ _ n5
  refine mS_steps (pc' := 31) (ls' := [.ref q]) (st' := [.int (16 : Int32), .ref q]) (mem' := m6) 2 rfl ?_
  refine mS_naL (a := (a + 3)) (N := 16) rfl l6 (by omega) (by decide) (by decide) (by decide) (fun m7 e7 l7 n7 k7 => ?_)
  have f7_0 := k7 _ _ f6_0
  have f7_1 := k7 _ _ f6_1
  have f7_2 := k7 _ _ f6_2
  have f7_3 := k7 _ _ f6_3
  refine mS_steps (pc' := 33) (ls' := [.ref q]) (st' := [.ref (a + 3), .ref q]) (mem' := m7) 0 rfl ?_
  refine mS_prg rfl f7_0 (by omega) (by decide) ?_
  refine mS_genM (mem := m7) l7 (fun _ _ h => h) (fun m8 e8 l8 k8 => ?_)
  have f8_0 := k8 _ _ f7_0
  have f8_1 := k8 _ _ f7_1
  have f8_2 := k8 _ _ f7_2
  have f8_3 := k8 _ _ f7_3
  have f8_4 := k8 _ _ n7
  refine mS_steps (pc' := 36) (ls' := [.ref q]) (st' := []) (mem' := m8) 0 rfl ?_
  exact mS_retv ⟨_, _, _, _, _, rfl⟩ (by subst e8 e7 e6 e5 e4 e3 e2 e1; rfl)
def c_X3_init (q a : Nat) (mem : mM) : mM := (m_pr q 6 (a + 4) (m_na 0 8 (a + 4) (m_pr q 5 (a + 3) (m_na 0 64 (a + 3) (m_pr q 4 (a + 2) (m_na 0 64 (a + 2) (m_pr q 2 (a + 1) (m_na 0 8 (a + 1) (m_pr q 1 a (m_na 0 8 a mem))))))))))
theorem c_X3_init_sh (q a : Nat) (mem : mM) : (c_X3_init q a mem).1 = mem.1 ++ [(100, 8), (100, 8), (100, 64), (100, 64), (100, 8)] := by
  show _ = _
  simp only [c_X3_init, m_nw, m_na, m_pr, m_pi, m_pj, List.append_assoc, List.cons_append, List.nil_append]
  try rfl
theorem c_X3_init_at {q a k : Nat} {mem : mM} {s : Nat × Nat} (h : mem.1[k]? = some s) : (c_X3_init q a mem).1[k]? = some s := by
  rw [c_X3_init_sh, List.getElem?_append_left (List.getElem?_eq_some_iff.mp h).1]; exact h
theorem c_X3_init_len {q a n : Nat} {mem : mM} (h : mem.1.length = n) : (c_X3_init q a mem).1.length = n + 5 := by
  rw [c_X3_init_sh, List.length_append, h]; rfl
theorem c_X3_init_ge {q a n k : Nat} {mem : mM} (hq : q < n) (ha : a + 5 ≤ n) (h : n ≤ k) : (c_X3_init q a mem).2.2.2 k = mem.2.2.2 k := ((m_pr_ge (by omega) h).trans ((m_na_ge (by omega) h).trans ((m_pr_ge (by omega) h).trans ((m_na_ge (by omega) h).trans ((m_pr_ge (by omega) h).trans ((m_na_ge (by omega) h).trans ((m_pr_ge (by omega) h).trans ((m_na_ge (by omega) h).trans ((m_pr_ge (by omega) h).trans (m_na_ge (by omega) h))))))))))
set_option maxRecDepth 20000 in
set_option maxHeartbeats 4000000 in
theorem c_X3_init_snd {fm : Value} {L : Nat} {xs : Nat → Int32} (q a : Nat) (mem : mM) (hq : mem.1[q]? = some (3, 7)) (hl : mem.1.length = a) (hB : a < 900000) : mS fm L xs (fun _ : Unit => (mU, c_X3_init q a mem)) pg_X3_init 0 (m_entry [.ref q] 1) [] mem (some ()) := by
  have hqa : q < a := hl ▸ (List.getElem?_eq_some_iff.mp hq).1
  have hBB : (900100 : Nat) < mBIG := by decide
  refine mS_steps (pc' := 7) (ls' := [.ref q]) (st' := [.int (8 : Int32), .ref q]) (mem' := mem) 4 rfl ?_
  refine mS_naL (a := a) (N := 8) rfl hl (by omega) (by decide) (by decide) (by decide) (fun m1 e1 l1 n1 k1 => ?_)
  have f1_0 := k1 _ _ hq
  refine mS_steps (pc' := 9) (ls' := [.ref q]) (st' := [.ref a, .ref q]) (mem' := m1) 0 rfl ?_
  refine mS_prg rfl f1_0 (by omega) (by decide) ?_
  refine mS_genM (mem := m1) l1 (fun _ _ h => h) (fun m2 e2 l2 k2 => ?_)
  have f2_0 := k2 _ _ f1_0
  have f2_1 := k2 _ _ n1
  refine mS_steps (pc' := 15) (ls' := [.ref q]) (st' := [.int (8 : Int32), .ref q]) (mem' := m2) 2 rfl ?_
  refine mS_naL (a := (a + 1)) (N := 8) rfl l2 (by omega) (by decide) (by decide) (by decide) (fun m3 e3 l3 n3 k3 => ?_)
  have f3_0 := k3 _ _ f2_0
  have f3_1 := k3 _ _ f2_1
  refine mS_steps (pc' := 17) (ls' := [.ref q]) (st' := [.ref (a + 1), .ref q]) (mem' := m3) 0 rfl ?_
  refine mS_prg rfl f3_0 (by omega) (by decide) ?_
  refine mS_genM (mem := m3) l3 (fun _ _ h => h) (fun m4 e4 l4 k4 => ?_)
  have f4_0 := k4 _ _ f3_0
  have f4_1 := k4 _ _ f3_1
  have f4_2 := k4 _ _ n3
  refine mS_steps (pc' := 23) (ls' := [.ref q]) (st' := [.int (64 : Int32), .ref q]) (mem' := m4) 2 rfl ?_
  refine mS_naL (a := (a + 2)) (N := 64) rfl l4 (by omega) (by decide) (by decide) (by decide) (fun m5 e5 l5 n5 k5 => ?_)
  have f5_0 := k5 _ _ f4_0
  have f5_1 := k5 _ _ f4_1
  have f5_2 := k5 _ _ f4_2
  refine mS_steps (pc' := 25) (ls' := [.ref q]) (st' := [.ref (a + 2), .ref q]) (mem' := m5) 0 rfl ?_
  refine mS_prg rfl f5_0 (by omega) (by decide) ?_
  refine mS_genM (mem := m5) l5 (fun _ _ h => h) (fun m6 e6 l6 k6 => ?_)
  have f6_0 := k6 _ _ f5_0
  have f6_1 := k6 _ _ f5_1
  have f6_2 := k6 _ _ f5_2
  have f6_3 := k6 _ _ n5
  refine mS_steps (pc' := 31) (ls' := [.ref q]) (st' := [.int (64 : Int32), .ref q]) (mem' := m6) 2 rfl ?_
  refine mS_naL (a := (a + 3)) (N := 64) rfl l6 (by omega) (by decide) (by decide) (by decide) (fun m7 e7 l7 n7 k7 => ?_)
  have f7_0 := k7 _ _ f6_0
  have f7_1 := k7 _ _ f6_1
  have f7_2 := k7 _ _ f6_2
  have f7_3 := k7 _ _ f6_3
  refine mS_steps (pc' := 33) (ls' := [.ref q]) (st' := [.ref (a + 3), .ref q]) (mem' := m7) 0 rfl ?_
  refine mS_prg rfl f7_0 (by omega) (by decide) ?_
  refine mS_genM (mem := m7) l7 (fun _ _ h => h) (fun m8 e8 l8 k8 => ?_)
  have f8_0 := k8 _ _ f7_0
  have f8_1 := k8 _ _ f7_1
  have f8_2 := k8 _ _ f7_2
  have f8_3 := k8 _ _ f7_3
  have f8_4 := k8 _ _ n7
  refine mS_steps (pc' := 39) (ls' := [.ref q]) (st' := [.int (8 : Int32), .ref q]) (mem' := m8) 2 rfl ?_
  refine mS_naL (a := (a + 4)) (N := 8) rfl l8 (by omega) (by decide) (by decide) (by decide) (fun m9 e9 l9 n9 k9 => ?_)
  have f9_0 := k9 _ _ f8_0
  have f9_1 := k9 _ _ f8_1
  have f9_2 := k9 _ _ f8_2
  have f9_3 := k9 _ _ f8_3
  have f9_4 := k9 _ _ f8_4
  refine mS_steps (pc' := 41) (ls' := [.ref q]) (st' := [.ref (a + 4), .ref q]) (mem' := m9) 0 rfl ?_
  refine mS_prg rfl f9_0 (by omega) (by decide) ?_
  refine mS_genM (mem := m9) l9 (fun _ _ h => h) (fun m10 e10 l10 k10 => ?_)
  have f10_0 := k10 _ _ f9_0
  have f10_1 := k10 _ _ f9_1
  have f10_2 := k10 _ _ f9_2
  have f10_3 := k10 _ _ f9_3
  have f10_4 := k10 _ _ f9_4
  have f10_5 := k10 _ _ n9
  refine mS_steps (pc' := 44) (ls' := [.ref q]) (st' := []) (mem' := m10) 0 rfl ?_
  exact mS_retv ⟨_, _, _, _, _, rfl⟩ (by subst e10 e9 e8 e7 e6 e5 e4 e3 e2 e1; rfl)
