/-! ===== the constructors (written by wip/whole/gen/gen18.py) ===== -/
def m_nw (b a : Nat) (mem : mM) : mM := (mem.1 ++ [(b, m_nf b)], va_up mem.2.1 a (fun _ => 0), mem.2.2.1, va_up mem.2.2.2 a (fun _ => none))
def m_na (t n a : Nat) (mem : mM) : mM := (mem.1 ++ [(100 + t, n)], va_up mem.2.1 a (fun _ => 0), va_up mem.2.2.1 a (fun _ => 0), va_up mem.2.2.2 a (fun _ => none))
def m_pr (q c r : Nat) (mem : mM) : mM := (mem.1, mem.2.1, mem.2.2.1, va_up mem.2.2.2 q (va_up (mem.2.2.2 q) c (some r)))
def m_pi (q c : Nat) (v : Int32) (mem : mM) : mM := (mem.1, va_up mem.2.1 q (va_up (mem.2.1 q) c v), mem.2.2.1, mem.2.2.2)
def m_pj (q c : Nat) (v : Int64) (mem : mM) : mM := (mem.1, mem.2.1, va_up mem.2.2.1 q (va_up (mem.2.2.1 q) c v), mem.2.2.2)
theorem m_nw_at {b a q : Nat} {mem : mM} {s : Nat × Nat} (h : mem.1[q]? = some s) : (m_nw b a mem).1[q]? = some s := by
  show (mem.1 ++ _)[q]? = _
  rw [List.getElem?_append_left (List.getElem?_eq_some_iff.mp h).1]; exact h
theorem m_na_at {t n a q : Nat} {mem : mM} {s : Nat × Nat} (h : mem.1[q]? = some s) : (m_na t n a mem).1[q]? = some s := by
  show (mem.1 ++ _)[q]? = _
  rw [List.getElem?_append_left (List.getElem?_eq_some_iff.mp h).1]; exact h
theorem m_nw_new {b a : Nat} {mem : mM} (h : mem.1.length = a) : (m_nw b a mem).1[a]? = some (b, m_nf b) := by
  show (mem.1 ++ _)[a]? = _
  rw [List.getElem?_append_right (by omega), h, Nat.sub_self]; rfl
theorem m_na_new {t n a : Nat} {mem : mM} (h : mem.1.length = a) : (m_na t n a mem).1[a]? = some (100 + t, n) := by
  show (mem.1 ++ _)[a]? = _
  rw [List.getElem?_append_right (by omega), h, Nat.sub_self]; rfl
theorem m_nw_len {b a : Nat} {mem : mM} (h : mem.1.length = a) : (m_nw b a mem).1.length = a + 1 := by
  show (mem.1 ++ _).length = _
  simp [h]
theorem m_na_len {t n a : Nat} {mem : mM} (h : mem.1.length = a) : (m_na t n a mem).1.length = a + 1 := by
  show (mem.1 ++ _).length = _
  simp [h]
section MC
variable {fm : Value} {L : Nat} {xs : Nat → Int32} {α : Type} {g : α → Value × mM} {pg : List (Nat × mO)} {pc u d : Nat} {v : Value} {ts : List Nat} {ls st : List Value} {mem : mM} {A : Option α}
theorem mS_nw {b a : Nat} (hl : pg.lookup pc = some (17, u, b, d, v, ts)) (ha : mem.1.length = a) (hB : a < mBIG) (k : mS fm L xs g pg (pc + 3) ls (.ref a :: st) (m_nw b a mem) A) : mS fm L xs g pg pc ls st mem A :=
  mS_one hl (by decide) (by simp only [m_step]; rw [ha, if_pos hB]; rfl) k
theorem mS_na {t a N : Nat} {n : Int32} (hl : pg.lookup pc = some (18, u, t, d, v, ts)) (ha : mem.1.length = a) (hB : a < mBIG) (hn : ¬ n < 0) (hN : n.toNatClampNeg = N) (hb : N ≤ 100000) (k : mS fm L xs g pg (pc + u) ls (.ref a :: st) (m_na t N a mem) A) : mS fm L xs g pg pc ls (.int n :: st) mem A :=
  mS_one hl (by decide) (by simp only [m_step]; rw [ha, hN, if_pos ⟨hB, hn, hb⟩]; rfl) k
theorem mS_prg {b c q r n : Nat} (hl : pg.lookup pc = some (13, u, b, c, v, ts)) (hq : mem.1[q]? = some (b, n)) (hB : q < mBIG) (hf : m_ft b c = 1) (k : mS fm L xs g pg (pc + 3) ls st (m_pr q c r mem) A) : mS fm L xs g pg pc ls (.ref r :: .ref q :: st) mem A :=
  mS_one hl (by decide) (by simp only [m_step]; rw [hq]; dsimp only; rw [if_pos ⟨rfl, hB, hf⟩]; rfl) k
theorem mS_pig {b c q n : Nat} {z : Int32} (hl : pg.lookup pc = some (13, u, b, c, v, ts)) (hq : mem.1[q]? = some (b, n)) (hB : q < mBIG) (hf : m_ft b c = 0) (k : mS fm L xs g pg (pc + 3) ls st (m_pi q c z mem) A) : mS fm L xs g pg pc ls (.int z :: .ref q :: st) mem A :=
  mS_one hl (by decide) (by simp only [m_step]; rw [hq]; dsimp only; rw [if_pos ⟨rfl, hB⟩, hf]; rfl) k
theorem mS_getg {b c q n r : Nat} (hl : pg.lookup pc = some (12, u, b, c, v, ts)) (hq : mem.1[q]? = some (b, n)) (hB : q < mBIG) (hf : m_ft b c = 1) (hr : mem.2.2.2 q c = some r) (k : mS fm L xs g pg (pc + 3) ls (.ref r :: st) mem A) : mS fm L xs g pg pc ls (.ref q :: st) mem A :=
  mS_one hl (by decide) (by
    simp only [m_step]; rw [hq]; dsimp only; rw [if_pos ⟨rfl, hB⟩, hf]
    show (match mem.2.2.2 q c with
      | some z => some (pc + 3, ls, Value.ref z :: st, mem)
      | none => some (pc + 3, ls, Value.null :: st, mem)) = _
    rw [hr]) k
theorem mS_aag {q n r N c : Nat} {i : Int32} (hl : pg.lookup pc = some (15, u, 4, d, v, ts)) (hq : mem.1[q]? = some (100 + 4, n)) (hB : q < mBIG) (hr : mem.1[r]? = some (6, N)) (hBr : r < mBIG) (hi : m_in i n = true) (hc : i.toNatClampNeg = c) (k : mS fm L xs g pg (pc + 1) ls st (m_pr q c r mem) A) : mS fm L xs g pg pc ls (.ref r :: .int i :: .ref q :: st) mem A :=
  mS_one hl (by decide) (by simp only [m_step]; rw [hq, hr]; dsimp only; rw [if_pos ⟨rfl, hB, hBr, hi, trivial, rfl⟩, hc]; rfl) k
theorem mS_ljg {q n c : Nat} {i : Int32} {z : Int64} (hl : pg.lookup pc = some (15, u, 1, d, v, ts)) (hq : mem.1[q]? = some (100 + 1, n)) (hB : q < mBIG) (hi : m_in i n = true) (hc : i.toNatClampNeg = c) (k : mS fm L xs g pg (pc + 1) ls st (m_pj q c z mem) A) : mS fm L xs g pg pc ls (.long z :: .int i :: .ref q :: st) mem A :=
  mS_one hl (by decide) (by simp only [m_step]; rw [hq]; dsimp only; rw [if_pos ⟨rfl, hB, hi, trivial⟩, hc]; rfl) k
theorem mS_nwL {b a : Nat} (hl : pg.lookup pc = some (17, u, b, d, v, ts)) (ha : mem.1.length = a) (hB : a < mBIG) (k : ∀ m', m' = m_nw b a mem → m'.1.length = a + 1 → m'.1[a]? = some (b, m_nf b) → (∀ q s, mem.1[q]? = some s → m'.1[q]? = some s) → mS fm L xs g pg (pc + 3) ls (.ref a :: st) m' A) : mS fm L xs g pg pc ls st mem A :=
  mS_nw hl ha hB (k _ rfl (m_nw_len ha) (m_nw_new ha) (fun _ _ h => m_nw_at h))
theorem mS_naL {t a N : Nat} {n : Int32} (hl : pg.lookup pc = some (18, u, t, d, v, ts)) (ha : mem.1.length = a) (hB : a < mBIG) (hn : ¬ n < 0) (hN : n.toNatClampNeg = N) (hb : N ≤ 100000) (k : ∀ m', m' = m_na t N a mem → m'.1.length = a + 1 → m'.1[a]? = some (100 + t, N) → (∀ q s, mem.1[q]? = some s → m'.1[q]? = some s) → mS fm L xs g pg (pc + u) ls (.ref a :: st) m' A) : mS fm L xs g pg pc ls (.int n :: st) mem A :=
  mS_na hl ha hB hn hN hb (k _ rfl (m_na_len ha) (m_na_new ha) (fun _ _ h => m_na_at h))
theorem mS_genM {M : mM} {n : Nat} (hlen : M.1.length = n) (hat : ∀ q s, mem.1[q]? = some s → M.1[q]? = some s) (k : ∀ m', m' = M → m'.1.length = n → (∀ q s, mem.1[q]? = some s → m'.1[q]? = some s) → mS fm L xs g pg pc ls st m' A) : mS fm L xs g pg pc ls st M A := k M rfl hlen hat
end MC
theorem m_up_ge {α : Type} {f : Nat → α} {v : α} {k n q : Nat} (hk : k < n) (h : n ≤ q) : va_up f k v q = f q := m_up_ne _ _ (by omega)
theorem m_nw_ge {b a n q : Nat} {mem : mM} (ha : a < n) (h : n ≤ q) : (m_nw b a mem).2.2.2 q = mem.2.2.2 q := m_up_ge ha h
theorem m_na_ge {t N a n q : Nat} {mem : mM} (ha : a < n) (h : n ≤ q) : (m_na t N a mem).2.2.2 q = mem.2.2.2 q := m_up_ge ha h
theorem m_pr_ge {q' c r n q : Nat} {mem : mM} (ha : q' < n) (h : n ≤ q) : (m_pr q' c r mem).2.2.2 q = mem.2.2.2 q := m_up_ge ha h
theorem m_pi_ge {q' c q : Nat} {z : Int32} {mem : mM} : (m_pi q' c z mem).2.2.2 q = mem.2.2.2 q := rfl
theorem m_pj_ge {q' c q : Nat} {z : Int64} {mem : mM} : (m_pj q' c z mem).2.2.2 q = mem.2.2.2 q := rfl
def f_X11_letters (p0 : Int32) (p1 : Int32) (p2 : Int32) (p3 : Int32) (p4 : Int32) (p5 : Int32) (p6 : Int32) : Option Int64 := ((f_X11_appends (0 : Int64) p0).bind fun q1 => ((f_X11_appends q1 p1).bind fun q2 => ((f_X11_appends q2 p2).bind fun q3 => ((f_X11_appends q3 p3).bind fun q4 => ((f_X11_appends q4 p4).bind fun q5 => ((f_X11_appends q5 p5).bind fun q6 => ((f_X11_appends q6 p6).bind fun q7 => (some q7))))))))
set_option maxRecDepth 20000 in
theorem f_X11_letters_snd {fm : Value} {L : Nat} {xs : Nat → Int32} (p0 : Int32) (p1 : Int32) (p2 : Int32) (p3 : Int32) (p4 : Int32) (p5 : Int32) (p6 : Int32) (mem : mM) : mS fm L xs (fun r : Int64 => (.long r, mem)) pg_X11_letters 0 (m_entry [.int p0, .int p1, .int p2, .int p3, .int p4, .int p5, .int p6] 7) [] mem ((f_X11_letters p0 p1 p2 p3 p4 p5 p6)) := by
  unfold f_X11_letters
  refine mS_steps (pc' := 0) (ls' := [.int p0, .int p1, .int p2, .int p3, .int p4, .int p5, .int p6]) (st' := []) (mem' := mem) 0 rfl ?_
  refine mS_steps (pc' := 2) (ls' := [.int p0, .int p1, .int p2, .int p3, .int p4, .int p5, .int p6]) (st' := [.int p0, .long (0 : Int64)]) (mem' := mem) 2 rfl ?_
  refine mS_bind (fun q1 hq1 => mS_call 11 2 [.long (0 : Int64), .int p0] [] rfl rfl rfl ⟨_, _, _, rfl, rfl⟩ (Nat.le_of_ble_eq_true rfl) (Nat.le_of_ble_eq_true rfl) hq1 (f_X11_appends_snd (0 : Int64) p0 mem) ?_)
  refine mS_steps (pc' := 6) (ls' := [.int p0, .int p1, .int p2, .int p3, .int p4, .int p5, .int p6]) (st' := [.int p1, .long q1]) (mem' := mem) 1 rfl ?_
  refine mS_bind (fun q2 hq2 => mS_call 11 2 [.long q1, .int p1] [] rfl rfl rfl ⟨_, _, _, rfl, rfl⟩ (Nat.le_of_ble_eq_true rfl) (Nat.le_of_ble_eq_true rfl) hq2 (f_X11_appends_snd q1 p1 mem) ?_)
  refine mS_steps (pc' := 10) (ls' := [.int p0, .int p1, .int p2, .int p3, .int p4, .int p5, .int p6]) (st' := [.int p2, .long q2]) (mem' := mem) 1 rfl ?_
  refine mS_bind (fun q3 hq3 => mS_call 11 2 [.long q2, .int p2] [] rfl rfl rfl ⟨_, _, _, rfl, rfl⟩ (Nat.le_of_ble_eq_true rfl) (Nat.le_of_ble_eq_true rfl) hq3 (f_X11_appends_snd q2 p2 mem) ?_)
  refine mS_steps (pc' := 14) (ls' := [.int p0, .int p1, .int p2, .int p3, .int p4, .int p5, .int p6]) (st' := [.int p3, .long q3]) (mem' := mem) 1 rfl ?_
  refine mS_bind (fun q4 hq4 => mS_call 11 2 [.long q3, .int p3] [] rfl rfl rfl ⟨_, _, _, rfl, rfl⟩ (Nat.le_of_ble_eq_true rfl) (Nat.le_of_ble_eq_true rfl) hq4 (f_X11_appends_snd q3 p3 mem) ?_)
  refine mS_steps (pc' := 19) (ls' := [.int p0, .int p1, .int p2, .int p3, .int p4, .int p5, .int p6]) (st' := [.int p4, .long q4]) (mem' := mem) 1 rfl ?_
  refine mS_bind (fun q5 hq5 => mS_call 11 2 [.long q4, .int p4] [] rfl rfl rfl ⟨_, _, _, rfl, rfl⟩ (Nat.le_of_ble_eq_true rfl) (Nat.le_of_ble_eq_true rfl) hq5 (f_X11_appends_snd q4 p4 mem) ?_)
  refine mS_steps (pc' := 24) (ls' := [.int p0, .int p1, .int p2, .int p3, .int p4, .int p5, .int p6]) (st' := [.int p5, .long q5]) (mem' := mem) 1 rfl ?_
  refine mS_bind (fun q6 hq6 => mS_call 11 2 [.long q5, .int p5] [] rfl rfl rfl ⟨_, _, _, rfl, rfl⟩ (Nat.le_of_ble_eq_true rfl) (Nat.le_of_ble_eq_true rfl) hq6 (f_X11_appends_snd q5 p5 mem) ?_)
  refine mS_steps (pc' := 29) (ls' := [.int p0, .int p1, .int p2, .int p3, .int p4, .int p5, .int p6]) (st' := [.int p6, .long q6]) (mem' := mem) 1 rfl ?_
  refine mS_bind (fun q7 hq7 => mS_call 11 2 [.long q6, .int p6] [] rfl rfl rfl ⟨_, _, _, rfl, rfl⟩ (Nat.le_of_ble_eq_true rfl) (Nat.le_of_ble_eq_true rfl) hq7 (f_X11_appends_snd q6 p6 mem) ?_)
  refine mS_steps (pc' := 32) (ls' := [.int p0, .int p1, .int p2, .int p3, .int p4, .int p5, .int p6]) (st' := [.long q7]) (mem' := mem) 0 rfl ?_
  exact mS_retl ⟨_, _, _, _, _, rfl⟩ rfl
def c_X6_init (q a : Nat) (mem : mM) : mM := (m_pr q 13 (a + 3) (m_na 0 16 (a + 3) (m_pr q 12 (a + 2) (m_na 0 16 (a + 2) (m_pr q 11 (a + 1) (m_na 0 16 (a + 1) (m_pr q 10 a (m_na 0 16 a mem))))))))
theorem c_X6_init_sh (q a : Nat) (mem : mM) : (c_X6_init q a mem).1 = mem.1 ++ [(100, 16), (100, 16), (100, 16), (100, 16)] := by
  show _ = _
  simp only [c_X6_init, m_nw, m_na, m_pr, m_pi, m_pj, List.append_assoc, List.cons_append, List.nil_append]
  rfl
theorem c_X6_init_at {q a k : Nat} {mem : mM} {s : Nat × Nat} (h : mem.1[k]? = some s) : (c_X6_init q a mem).1[k]? = some s := by
  rw [c_X6_init_sh, List.getElem?_append_left (List.getElem?_eq_some_iff.mp h).1]; exact h
theorem c_X6_init_len {q a n : Nat} {mem : mM} (h : mem.1.length = n) : (c_X6_init q a mem).1.length = n + 4 := by
  rw [c_X6_init_sh, List.length_append, h]; rfl
theorem c_X6_init_ge {q a n k : Nat} {mem : mM} (hq : q < n) (ha : a + 4 ≤ n) (h : n ≤ k) : (c_X6_init q a mem).2.2.2 k = mem.2.2.2 k := ((m_pr_ge (by omega) h).trans ((m_na_ge (by omega) h).trans ((m_pr_ge (by omega) h).trans ((m_na_ge (by omega) h).trans ((m_pr_ge (by omega) h).trans ((m_na_ge (by omega) h).trans ((m_pr_ge (by omega) h).trans (m_na_ge (by omega) h))))))))
set_option maxRecDepth 20000 in
set_option maxHeartbeats 4000000 in
theorem c_X6_init_snd {fm : Value} {L : Nat} {xs : Nat → Int32} (q a : Nat) (mem : mM) (hq : mem.1[q]? = some (6, 14)) (hl : mem.1.length = a) (hB : a < 900000) : mS fm L xs (fun _ : Unit => (mU, c_X6_init q a mem)) pg_X6_init 0 (m_entry [.ref q] 1) [] mem (some ()) := by
  have hqa : q < a := hl ▸ (List.getElem?_eq_some_iff.mp hq).1
  have hBB : (900000 : Nat) < mBIG := by decide
  refine mS_steps (pc' := 7) (ls' := [.ref q]) (st' := [.int (16 : Int32), .ref q]) (mem' := mem) 4 rfl ?_
  refine mS_naL (a := a) (N := 16) rfl hl (by omega) (by decide) (by decide) (by decide) (fun m1 e1 l1 n1 k1 => ?_)
  have f1_0 := k1 _ _ hq
  refine mS_steps (pc' := 9) (ls' := [.ref q]) (st' := [.ref a, .ref q]) (mem' := m1) 0 rfl ?_
  refine mS_prg rfl f1_0 (by omega) (by decide) ?_
  refine mS_genM (mem := m1) l1 (fun _ _ h => h) (fun m2 e2 l2 k2 => ?_)
  have f2_0 := k2 _ _ f1_0
  have f2_1 := k2 _ _ n1
  refine mS_steps (pc' := 15) (ls' := [.ref q]) (st' := [.int (16 : Int32), .ref q]) (mem' := m2) 2 rfl ?_
  refine mS_naL (a := (a + 1)) (N := 16) rfl l2 (by omega) (by decide) (by decide) (by decide) (fun m3 e3 l3 n3 k3 => ?_)
  have f3_0 := k3 _ _ f2_0
  have f3_1 := k3 _ _ f2_1
  refine mS_steps (pc' := 17) (ls' := [.ref q]) (st' := [.ref (a + 1), .ref q]) (mem' := m3) 0 rfl ?_
  refine mS_prg rfl f3_0 (by omega) (by decide) ?_
  refine mS_genM (mem := m3) l3 (fun _ _ h => h) (fun m4 e4 l4 k4 => ?_)
  have f4_0 := k4 _ _ f3_0
  have f4_1 := k4 _ _ f3_1
  have f4_2 := k4 _ _ n3
  refine mS_steps (pc' := 23) (ls' := [.ref q]) (st' := [.int (16 : Int32), .ref q]) (mem' := m4) 2 rfl ?_
  refine mS_naL (a := (a + 2)) (N := 16) rfl l4 (by omega) (by decide) (by decide) (by decide) (fun m5 e5 l5 n5 k5 => ?_)
  have f5_0 := k5 _ _ f4_0
  have f5_1 := k5 _ _ f4_1
  have f5_2 := k5 _ _ f4_2
  refine mS_steps (pc' := 25) (ls' := [.ref q]) (st' := [.ref (a + 2), .ref q]) (mem' := m5) 0 rfl ?_
  refine mS_prg rfl f5_0 (by omega) (by decide) ?_
  refine mS_genM (mem := m5) l5 (fun _ _ h => h) (fun m6 e6 l6 k6 => ?_)
  have f6_0 := k6 _ _ f5_0
  have f6_1 := k6 _ _ f5_1
  have f6_2 := k6 _ _ f5_2
  have f6_3 := k6 _ _ n5
  refine mS_steps (pc' := 31) (ls' := [.ref q]) (st' := [.int (16 : Int32), .ref q]) (mem' := m6) 2 rfl ?_
  refine mS_naL (a := (a + 3)) (N := 16) rfl l6 (by omega) (by decide) (by decide) (by decide) (fun m7 e7 l7 n7 k7 => ?_)
  have f7_0 := k7 _ _ f6_0
  have f7_1 := k7 _ _ f6_1
  have f7_2 := k7 _ _ f6_2
  have f7_3 := k7 _ _ f6_3
  refine mS_steps (pc' := 33) (ls' := [.ref q]) (st' := [.ref (a + 3), .ref q]) (mem' := m7) 0 rfl ?_
  refine mS_prg rfl f7_0 (by omega) (by decide) ?_
  refine mS_genM (mem := m7) l7 (fun _ _ h => h) (fun m8 e8 l8 k8 => ?_)
  have f8_0 := k8 _ _ f7_0
  have f8_1 := k8 _ _ f7_1
  have f8_2 := k8 _ _ f7_2
  have f8_3 := k8 _ _ f7_3
  have f8_4 := k8 _ _ n7
  refine mS_steps (pc' := 36) (ls' := [.ref q]) (st' := []) (mem' := m8) 0 rfl ?_
  exact mS_retv ⟨_, _, _, _, _, rfl⟩ (by subst e8 e7 e6 e5 e4 e3 e2 e1; rfl)
def c_X5_init (mem : mM) : mM := (m_pr 1 15 13 (m_na 0 8 13 (m_pr 1 14 12 (m_na 0 8 12 (m_pr 1 13 11 (m_na 1 8 11 (m_pr 1 8 (mBIG + 0) (m_pr 1 7 10 (m_na 1 400 10 (m_pr 1 6 9 (m_na 0 400 9 (m_pr 1 5 8 (m_na 0 400 8 (m_pr 1 3 7 (m_na 2 2000 7 (m_pr 1 2 2 (c_X6_init 2 3 (m_nw 6 2 (m_pi 1 1 (-1 : Int32) mem)))))))))))))))))))
theorem c_X5_init_sh (mem : mM) : (c_X5_init mem).1 = mem.1 ++ [(6, 14), (100, 16), (100, 16), (100, 16), (100, 16), (102, 2000), (100, 400), (100, 400), (101, 400), (101, 8), (100, 8), (100, 8)] := by
  show _ = _
  simp only [c_X5_init, m_nw, m_na, m_pr, m_pi, m_pj, c_X6_init_sh, List.append_assoc, List.cons_append, List.nil_append]
  rfl
theorem c_X5_init_at {k : Nat} {mem : mM} {s : Nat × Nat} (h : mem.1[k]? = some s) : (c_X5_init mem).1[k]? = some s := by
  rw [c_X5_init_sh, List.getElem?_append_left (List.getElem?_eq_some_iff.mp h).1]; exact h
theorem c_X5_init_len {n : Nat} {mem : mM} (h : mem.1.length = n) : (c_X5_init mem).1.length = n + 12 := by
  rw [c_X5_init_sh, List.length_append, h]; rfl
set_option maxRecDepth 20000 in
theorem c_X5_init_ge {k : Nat} {mem : mM} (h : 315 ≤ k) : (c_X5_init mem).2.2.2 k = mem.2.2.2 k := ((m_pr_ge (by decide) h).trans ((m_na_ge (by decide) h).trans ((m_pr_ge (by decide) h).trans ((m_na_ge (by decide) h).trans ((m_pr_ge (by decide) h).trans ((m_na_ge (by decide) h).trans ((m_pr_ge (by decide) h).trans ((m_pr_ge (by decide) h).trans ((m_na_ge (by decide) h).trans ((m_pr_ge (by decide) h).trans ((m_na_ge (by decide) h).trans ((m_pr_ge (by decide) h).trans ((m_na_ge (by decide) h).trans ((m_pr_ge (by decide) h).trans ((m_na_ge (by decide) h).trans ((m_pr_ge (by decide) h).trans ((c_X6_init_ge (by decide) (by decide) h).trans ((m_nw_ge (by decide) h).trans m_pi_ge))))))))))))))))))
set_option maxRecDepth 20000 in
set_option maxHeartbeats 4000000 in
theorem c_X5_init_snd {fm : Value} {L : Nat} {xs : Nat → Int32} (mem : mM) (hq : mem.1[1]? = some (5, 17)) (hl : mem.1.length = 2) : mS fm L xs (fun _ : Unit => (mU, c_X5_init mem)) pg_X5_init 0 (m_entry [.ref 1] 1) [] mem (some ()) := by
  refine mS_steps (pc' := 6) (ls' := [.ref 1]) (st' := [.int (-1 : Int32), .ref 1]) (mem' := mem) 4 rfl ?_
  refine mS_pig rfl hq (by decide) (by decide) ?_
  refine mS_genM (mem := mem) hl (fun _ _ h => h) (fun m1 e1 l1 k1 => ?_)
  have f1_0 := k1 _ _ hq
  refine mS_steps (pc' := 10) (ls' := [.ref 1]) (st' := [.ref 1]) (mem' := m1) 1 rfl ?_
  refine mS_nwL (a := 2) rfl l1 (by decide) (fun m2 e2 l2 n2 k2 => ?_)
  have f2_0 := k2 _ _ f1_0
  refine mS_steps (pc' := 14) (ls' := [.ref 1]) (st' := [.ref 2, .ref 2, .ref 1]) (mem' := m2) 1 rfl ?_
  refine mS_call (q := ()) 0 1 [.ref 2] [.ref 2, .ref 1] rfl rfl rfl ⟨_, _, _, rfl, rfl⟩ (Nat.le_of_ble_eq_true rfl) (Nat.le_of_ble_eq_true rfl) rfl (c_X6_init_snd 2 3 m2 n2 l2 (by decide)) ?_
  refine mS_steps (pc' := 17) (ls' := [.ref 1]) (st' := [.ref 2, .ref 1]) (mem' := c_X6_init 2 3 m2) 0 rfl ?_
  refine mS_genM (mem := m2) (c_X6_init_len l2) (fun _ _ h => c_X6_init_at h) (fun m3 e3 l3 k3 => ?_)
  have f3_0 := k3 _ _ f2_0
  have f3_1 := k3 _ _ n2
  refine mS_steps (pc' := 17) (ls' := [.ref 1]) (st' := [.ref 2, .ref 1]) (mem' := m3) 0 rfl ?_
  refine mS_prg rfl f3_0 (by decide) (by decide) ?_
  refine mS_genM (mem := m3) l3 (fun _ _ h => h) (fun m4 e4 l4 k4 => ?_)
  have f4_0 := k4 _ _ f3_0
  have f4_1 := k4 _ _ f3_1
  refine mS_steps (pc' := 24) (ls' := [.ref 1]) (st' := [.int (2000 : Int32), .ref 1]) (mem' := m4) 2 rfl ?_
  refine mS_naL (a := 7) (N := 2000) rfl l4 (by decide) (by decide) (by decide) (by decide) (fun m5 e5 l5 n5 k5 => ?_)
  have f5_0 := k5 _ _ f4_0
  have f5_1 := k5 _ _ f4_1
  refine mS_steps (pc' := 26) (ls' := [.ref 1]) (st' := [.ref 7, .ref 1]) (mem' := m5) 0 rfl ?_
  refine mS_prg rfl f5_0 (by decide) (by decide) ?_
  refine mS_genM (mem := m5) l5 (fun _ _ h => h) (fun m6 e6 l6 k6 => ?_)
  have f6_0 := k6 _ _ f5_0
  have f6_1 := k6 _ _ f5_1
  have f6_2 := k6 _ _ n5
  refine mS_steps (pc' := 33) (ls' := [.ref 1]) (st' := [.int (400 : Int32), .ref 1]) (mem' := m6) 2 rfl ?_
  refine mS_naL (a := 8) (N := 400) rfl l6 (by decide) (by decide) (by decide) (by decide) (fun m7 e7 l7 n7 k7 => ?_)
  have f7_0 := k7 _ _ f6_0
  have f7_1 := k7 _ _ f6_1
  have f7_2 := k7 _ _ f6_2
  refine mS_steps (pc' := 35) (ls' := [.ref 1]) (st' := [.ref 8, .ref 1]) (mem' := m7) 0 rfl ?_
  refine mS_prg rfl f7_0 (by decide) (by decide) ?_
  refine mS_genM (mem := m7) l7 (fun _ _ h => h) (fun m8 e8 l8 k8 => ?_)
  have f8_0 := k8 _ _ f7_0
  have f8_1 := k8 _ _ f7_1
  have f8_2 := k8 _ _ f7_2
  have f8_3 := k8 _ _ n7
  refine mS_steps (pc' := 42) (ls' := [.ref 1]) (st' := [.int (400 : Int32), .ref 1]) (mem' := m8) 2 rfl ?_
  refine mS_naL (a := 9) (N := 400) rfl l8 (by decide) (by decide) (by decide) (by decide) (fun m9 e9 l9 n9 k9 => ?_)
  have f9_0 := k9 _ _ f8_0
  have f9_1 := k9 _ _ f8_1
  have f9_2 := k9 _ _ f8_2
  have f9_3 := k9 _ _ f8_3
  refine mS_steps (pc' := 44) (ls' := [.ref 1]) (st' := [.ref 9, .ref 1]) (mem' := m9) 0 rfl ?_
  refine mS_prg rfl f9_0 (by decide) (by decide) ?_
  refine mS_genM (mem := m9) l9 (fun _ _ h => h) (fun m10 e10 l10 k10 => ?_)
  have f10_0 := k10 _ _ f9_0
  have f10_1 := k10 _ _ f9_1
  have f10_2 := k10 _ _ f9_2
  have f10_3 := k10 _ _ f9_3
  have f10_4 := k10 _ _ n9
  refine mS_steps (pc' := 51) (ls' := [.ref 1]) (st' := [.int (400 : Int32), .ref 1]) (mem' := m10) 2 rfl ?_
  refine mS_naL (a := 10) (N := 400) rfl l10 (by decide) (by decide) (by decide) (by decide) (fun m11 e11 l11 n11 k11 => ?_)
  have f11_0 := k11 _ _ f10_0
  have f11_1 := k11 _ _ f10_1
  have f11_2 := k11 _ _ f10_2
  have f11_3 := k11 _ _ f10_3
  have f11_4 := k11 _ _ f10_4
  refine mS_steps (pc' := 53) (ls' := [.ref 1]) (st' := [.ref 10, .ref 1]) (mem' := m11) 0 rfl ?_
  refine mS_prg rfl f11_0 (by decide) (by decide) ?_
  refine mS_genM (mem := m11) l11 (fun _ _ h => h) (fun m12 e12 l12 k12 => ?_)
  have f12_0 := k12 _ _ f11_0
  have f12_1 := k12 _ _ f11_1
  have f12_2 := k12 _ _ f11_2
  have f12_3 := k12 _ _ f11_3
  have f12_4 := k12 _ _ f11_4
  have f12_5 := k12 _ _ n11
  refine mS_steps (pc' := 59) (ls' := [.ref 1]) (st' := [.ref (mBIG + 0), .ref 1]) (mem' := m12) 2 rfl ?_
  refine mS_prg rfl f12_0 (by decide) (by decide) ?_
  refine mS_genM (mem := m12) l12 (fun _ _ h => h) (fun m13 e13 l13 k13 => ?_)
  have f13_0 := k13 _ _ f12_0
  have f13_1 := k13 _ _ f12_1
  have f13_2 := k13 _ _ f12_2
  have f13_3 := k13 _ _ f12_3
  have f13_4 := k13 _ _ f12_4
  have f13_5 := k13 _ _ f12_5
  refine mS_steps (pc' := 65) (ls' := [.ref 1]) (st' := [.int (8 : Int32), .ref 1]) (mem' := m13) 2 rfl ?_
  refine mS_naL (a := 11) (N := 8) rfl l13 (by decide) (by decide) (by decide) (by decide) (fun m14 e14 l14 n14 k14 => ?_)
  have f14_0 := k14 _ _ f13_0
  have f14_1 := k14 _ _ f13_1
  have f14_2 := k14 _ _ f13_2
  have f14_3 := k14 _ _ f13_3
  have f14_4 := k14 _ _ f13_4
  have f14_5 := k14 _ _ f13_5
  refine mS_steps (pc' := 67) (ls' := [.ref 1]) (st' := [.ref 11, .ref 1]) (mem' := m14) 0 rfl ?_
  refine mS_prg rfl f14_0 (by decide) (by decide) ?_
  refine mS_genM (mem := m14) l14 (fun _ _ h => h) (fun m15 e15 l15 k15 => ?_)
  have f15_0 := k15 _ _ f14_0
  have f15_1 := k15 _ _ f14_1
  have f15_2 := k15 _ _ f14_2
  have f15_3 := k15 _ _ f14_3
  have f15_4 := k15 _ _ f14_4
  have f15_5 := k15 _ _ f14_5
  have f15_6 := k15 _ _ n14
  refine mS_steps (pc' := 73) (ls' := [.ref 1]) (st' := [.int (8 : Int32), .ref 1]) (mem' := m15) 2 rfl ?_
  refine mS_naL (a := 12) (N := 8) rfl l15 (by decide) (by decide) (by decide) (by decide) (fun m16 e16 l16 n16 k16 => ?_)
  have f16_0 := k16 _ _ f15_0
  have f16_1 := k16 _ _ f15_1
  have f16_2 := k16 _ _ f15_2
  have f16_3 := k16 _ _ f15_3
  have f16_4 := k16 _ _ f15_4
  have f16_5 := k16 _ _ f15_5
  have f16_6 := k16 _ _ f15_6
  refine mS_steps (pc' := 75) (ls' := [.ref 1]) (st' := [.ref 12, .ref 1]) (mem' := m16) 0 rfl ?_
  refine mS_prg rfl f16_0 (by decide) (by decide) ?_
  refine mS_genM (mem := m16) l16 (fun _ _ h => h) (fun m17 e17 l17 k17 => ?_)
  have f17_0 := k17 _ _ f16_0
  have f17_1 := k17 _ _ f16_1
  have f17_2 := k17 _ _ f16_2
  have f17_3 := k17 _ _ f16_3
  have f17_4 := k17 _ _ f16_4
  have f17_5 := k17 _ _ f16_5
  have f17_6 := k17 _ _ f16_6
  have f17_7 := k17 _ _ n16
  refine mS_steps (pc' := 81) (ls' := [.ref 1]) (st' := [.int (8 : Int32), .ref 1]) (mem' := m17) 2 rfl ?_
  refine mS_naL (a := 13) (N := 8) rfl l17 (by decide) (by decide) (by decide) (by decide) (fun m18 e18 l18 n18 k18 => ?_)
  have f18_0 := k18 _ _ f17_0
  have f18_1 := k18 _ _ f17_1
  have f18_2 := k18 _ _ f17_2
  have f18_3 := k18 _ _ f17_3
  have f18_4 := k18 _ _ f17_4
  have f18_5 := k18 _ _ f17_5
  have f18_6 := k18 _ _ f17_6
  have f18_7 := k18 _ _ f17_7
  refine mS_steps (pc' := 83) (ls' := [.ref 1]) (st' := [.ref 13, .ref 1]) (mem' := m18) 0 rfl ?_
  refine mS_prg rfl f18_0 (by decide) (by decide) ?_
  refine mS_genM (mem := m18) l18 (fun _ _ h => h) (fun m19 e19 l19 k19 => ?_)
  have f19_0 := k19 _ _ f18_0
  have f19_1 := k19 _ _ f18_1
  have f19_2 := k19 _ _ f18_2
  have f19_3 := k19 _ _ f18_3
  have f19_4 := k19 _ _ f18_4
  have f19_5 := k19 _ _ f18_5
  have f19_6 := k19 _ _ f18_6
  have f19_7 := k19 _ _ f18_7
  have f19_8 := k19 _ _ n18
  refine mS_steps (pc' := 86) (ls' := [.ref 1]) (st' := []) (mem' := m19) 0 rfl ?_
  exact mS_retv ⟨_, _, _, _, _, rfl⟩ (by subst e19 e18 e17 e16 e15 e14 e13 e12 e11 e10 e9 e8 e7 e6 e5 e4 e3 e2 e1; rfl)
def c_X2_init (mem : mM) : mM := (m_pr 20 39 216 (c_X6_init 216 217 (m_nw 6 216 (m_pr 20 38 211 (c_X6_init 211 212 (m_nw 6 211 (m_pr 20 37 206 (c_X6_init 206 207 (m_nw 6 206 (m_pr 20 36 201 (c_X6_init 201 202 (m_nw 6 201 (m_pr 20 35 196 (c_X6_init 196 197 (m_nw 6 196 (m_pr 20 34 191 (c_X6_init 191 192 (m_nw 6 191 (m_pr 20 33 186 (c_X6_init 186 187 (m_nw 6 186 (m_pr 20 32 181 (c_X6_init 181 182 (m_nw 6 181 (m_pr 20 31 176 (c_X6_init 176 177 (m_nw 6 176 (m_pr 20 30 171 (c_X6_init 171 172 (m_nw 6 171 (m_pr 20 29 166 (c_X6_init 166 167 (m_nw 6 166 (m_pr 20 28 161 (c_X6_init 161 162 (m_nw 6 161 (m_pr 20 27 156 (c_X6_init 156 157 (m_nw 6 156 (m_pr 20 26 151 (c_X6_init 151 152 (m_nw 6 151 (m_pr 20 25 146 (c_X6_init 146 147 (m_nw 6 146 (m_pr 20 24 141 (c_X6_init 141 142 (m_nw 6 141 (m_pr 20 23 136 (c_X6_init 136 137 (m_nw 6 136 (m_pr 20 22 131 (c_X6_init 131 132 (m_nw 6 131 (m_pr 20 21 126 (c_X6_init 126 127 (m_nw 6 126 (m_pr 20 20 121 (c_X6_init 121 122 (m_nw 6 121 (m_pr 20 19 116 (c_X6_init 116 117 (m_nw 6 116 (m_pr 20 18 111 (c_X6_init 111 112 (m_nw 6 111 (m_pr 20 17 106 (c_X6_init 106 107 (m_nw 6 106 (m_pr 20 16 101 (c_X6_init 101 102 (m_nw 6 101 (m_pr 20 15 96 (c_X6_init 96 97 (m_nw 6 96 (m_pr 20 14 91 (c_X6_init 91 92 (m_nw 6 91 (m_pr 20 13 86 (c_X6_init 86 87 (m_nw 6 86 (m_pr 20 12 81 (c_X6_init 81 82 (m_nw 6 81 (m_pr 20 11 76 (c_X6_init 76 77 (m_nw 6 76 (m_pr 20 10 71 (c_X6_init 71 72 (m_nw 6 71 (m_pr 20 9 66 (c_X6_init 66 67 (m_nw 6 66 (m_pr 20 8 61 (c_X6_init 61 62 (m_nw 6 61 (m_pr 20 7 56 (c_X6_init 56 57 (m_nw 6 56 (m_pr 20 6 51 (c_X6_init 51 52 (m_nw 6 51 (m_pr 20 5 46 (c_X6_init 46 47 (m_nw 6 46 (m_pr 20 4 41 (c_X6_init 41 42 (m_nw 6 41 (m_pr 20 3 36 (c_X6_init 36 37 (m_nw 6 36 (m_pr 20 2 31 (c_X6_init 31 32 (m_nw 6 31 (m_pr 20 1 26 (c_X6_init 26 27 (m_nw 6 26 (m_pr 20 0 21 (c_X6_init 21 22 (m_nw 6 21 (m_pr 19 2 20 (m_na 4 40 20 mem))))))))))))))))))))))))))))))))))))))))))))))))))))))))))))))))))))))))))))))))))))))))))))))))))))))))))))))))))))))))))
theorem c_X2_init_sh (mem : mM) : (c_X2_init mem).1 = mem.1 ++ [(104, 40), (6, 14), (100, 16), (100, 16), (100, 16), (100, 16), (6, 14), (100, 16), (100, 16), (100, 16), (100, 16), (6, 14), (100, 16), (100, 16), (100, 16), (100, 16), (6, 14), (100, 16), (100, 16), (100, 16), (100, 16), (6, 14), (100, 16), (100, 16), (100, 16), (100, 16), (6, 14), (100, 16), (100, 16), (100, 16), (100, 16), (6, 14), (100, 16), (100, 16), (100, 16), (100, 16), (6, 14), (100, 16), (100, 16), (100, 16), (100, 16), (6, 14), (100, 16), (100, 16), (100, 16), (100, 16), (6, 14), (100, 16), (100, 16), (100, 16), (100, 16), (6, 14), (100, 16), (100, 16), (100, 16), (100, 16), (6, 14), (100, 16), (100, 16), (100, 16), (100, 16), (6, 14), (100, 16), (100, 16), (100, 16), (100, 16), (6, 14), (100, 16), (100, 16), (100, 16), (100, 16), (6, 14), (100, 16), (100, 16), (100, 16), (100, 16), (6, 14), (100, 16), (100, 16), (100, 16), (100, 16), (6, 14), (100, 16), (100, 16), (100, 16), (100, 16), (6, 14), (100, 16), (100, 16), (100, 16), (100, 16), (6, 14), (100, 16), (100, 16), (100, 16), (100, 16), (6, 14), (100, 16), (100, 16), (100, 16), (100, 16), (6, 14), (100, 16), (100, 16), (100, 16), (100, 16), (6, 14), (100, 16), (100, 16), (100, 16), (100, 16), (6, 14), (100, 16), (100, 16), (100, 16), (100, 16), (6, 14), (100, 16), (100, 16), (100, 16), (100, 16), (6, 14), (100, 16), (100, 16), (100, 16), (100, 16), (6, 14), (100, 16), (100, 16), (100, 16), (100, 16), (6, 14), (100, 16), (100, 16), (100, 16), (100, 16), (6, 14), (100, 16), (100, 16), (100, 16), (100, 16), (6, 14), (100, 16), (100, 16), (100, 16), (100, 16), (6, 14), (100, 16), (100, 16), (100, 16), (100, 16), (6, 14), (100, 16), (100, 16), (100, 16), (100, 16), (6, 14), (100, 16), (100, 16), (100, 16), (100, 16), (6, 14), (100, 16), (100, 16), (100, 16), (100, 16), (6, 14), (100, 16), (100, 16), (100, 16), (100, 16), (6, 14), (100, 16), (100, 16), (100, 16), (100, 16), (6, 14), (100, 16), (100, 16), (100, 16), (100, 16), (6, 14), (100, 16), (100, 16), (100, 16), (100, 16), (6, 14), (100, 16), (100, 16), (100, 16), (100, 16), (6, 14), (100, 16), (100, 16), (100, 16), (100, 16), (6, 14), (100, 16), (100, 16), (100, 16), (100, 16)] := by
  show _ = _
  simp only [c_X2_init, m_nw, m_na, m_pr, m_pi, m_pj, c_X6_init_sh, List.append_assoc, List.cons_append, List.nil_append]
  rfl
theorem c_X2_init_at {k : Nat} {mem : mM} {s : Nat × Nat} (h : mem.1[k]? = some s) : (c_X2_init mem).1[k]? = some s := by
  rw [c_X2_init_sh, List.getElem?_append_left (List.getElem?_eq_some_iff.mp h).1]; exact h
theorem c_X2_init_len {n : Nat} {mem : mM} (h : mem.1.length = n) : (c_X2_init mem).1.length = n + 201 := by
  rw [c_X2_init_sh, List.length_append, h]; rfl
set_option maxRecDepth 20000 in
theorem c_X2_init_ge {k : Nat} {mem : mM} (h : 315 ≤ k) : (c_X2_init mem).2.2.2 k = mem.2.2.2 k := ((m_pr_ge (by decide) h).trans ((c_X6_init_ge (by decide) (by decide) h).trans ((m_nw_ge (by decide) h).trans ((m_pr_ge (by decide) h).trans ((c_X6_init_ge (by decide) (by decide) h).trans ((m_nw_ge (by decide) h).trans ((m_pr_ge (by decide) h).trans ((c_X6_init_ge (by decide) (by decide) h).trans ((m_nw_ge (by decide) h).trans ((m_pr_ge (by decide) h).trans ((c_X6_init_ge (by decide) (by decide) h).trans ((m_nw_ge (by decide) h).trans ((m_pr_ge (by decide) h).trans ((c_X6_init_ge (by decide) (by decide) h).trans ((m_nw_ge (by decide) h).trans ((m_pr_ge (by decide) h).trans ((c_X6_init_ge (by decide) (by decide) h).trans ((m_nw_ge (by decide) h).trans ((m_pr_ge (by decide) h).trans ((c_X6_init_ge (by decide) (by decide) h).trans ((m_nw_ge (by decide) h).trans ((m_pr_ge (by decide) h).trans ((c_X6_init_ge (by decide) (by decide) h).trans ((m_nw_ge (by decide) h).trans ((m_pr_ge (by decide) h).trans ((c_X6_init_ge (by decide) (by decide) h).trans ((m_nw_ge (by decide) h).trans ((m_pr_ge (by decide) h).trans ((c_X6_init_ge (by decide) (by decide) h).trans ((m_nw_ge (by decide) h).trans ((m_pr_ge (by decide) h).trans ((c_X6_init_ge (by decide) (by decide) h).trans ((m_nw_ge (by decide) h).trans ((m_pr_ge (by decide) h).trans ((c_X6_init_ge (by decide) (by decide) h).trans ((m_nw_ge (by decide) h).trans ((m_pr_ge (by decide) h).trans ((c_X6_init_ge (by decide) (by decide) h).trans ((m_nw_ge (by decide) h).trans ((m_pr_ge (by decide) h).trans ((c_X6_init_ge (by decide) (by decide) h).trans ((m_nw_ge (by decide) h).trans ((m_pr_ge (by decide) h).trans ((c_X6_init_ge (by decide) (by decide) h).trans ((m_nw_ge (by decide) h).trans ((m_pr_ge (by decide) h).trans ((c_X6_init_ge (by decide) (by decide) h).trans ((m_nw_ge (by decide) h).trans ((m_pr_ge (by decide) h).trans ((c_X6_init_ge (by decide) (by decide) h).trans ((m_nw_ge (by decide) h).trans ((m_pr_ge (by decide) h).trans ((c_X6_init_ge (by decide) (by decide) h).trans ((m_nw_ge (by decide) h).trans ((m_pr_ge (by decide) h).trans ((c_X6_init_ge (by decide) (by decide) h).trans ((m_nw_ge (by decide) h).trans ((m_pr_ge (by decide) h).trans ((c_X6_init_ge (by decide) (by decide) h).trans ((m_nw_ge (by decide) h).trans ((m_pr_ge (by decide) h).trans ((c_X6_init_ge (by decide) (by decide) h).trans ((m_nw_ge (by decide) h).trans ((m_pr_ge (by decide) h).trans ((c_X6_init_ge (by decide) (by decide) h).trans ((m_nw_ge (by decide) h).trans ((m_pr_ge (by decide) h).trans ((c_X6_init_ge (by decide) (by decide) h).trans ((m_nw_ge (by decide) h).trans ((m_pr_ge (by decide) h).trans ((c_X6_init_ge (by decide) (by decide) h).trans ((m_nw_ge (by decide) h).trans ((m_pr_ge (by decide) h).trans ((c_X6_init_ge (by decide) (by decide) h).trans ((m_nw_ge (by decide) h).trans ((m_pr_ge (by decide) h).trans ((c_X6_init_ge (by decide) (by decide) h).trans ((m_nw_ge (by decide) h).trans ((m_pr_ge (by decide) h).trans ((c_X6_init_ge (by decide) (by decide) h).trans ((m_nw_ge (by decide) h).trans ((m_pr_ge (by decide) h).trans ((c_X6_init_ge (by decide) (by decide) h).trans ((m_nw_ge (by decide) h).trans ((m_pr_ge (by decide) h).trans ((c_X6_init_ge (by decide) (by decide) h).trans ((m_nw_ge (by decide) h).trans ((m_pr_ge (by decide) h).trans ((c_X6_init_ge (by decide) (by decide) h).trans ((m_nw_ge (by decide) h).trans ((m_pr_ge (by decide) h).trans ((c_X6_init_ge (by decide) (by decide) h).trans ((m_nw_ge (by decide) h).trans ((m_pr_ge (by decide) h).trans ((c_X6_init_ge (by decide) (by decide) h).trans ((m_nw_ge (by decide) h).trans ((m_pr_ge (by decide) h).trans ((c_X6_init_ge (by decide) (by decide) h).trans ((m_nw_ge (by decide) h).trans ((m_pr_ge (by decide) h).trans ((c_X6_init_ge (by decide) (by decide) h).trans ((m_nw_ge (by decide) h).trans ((m_pr_ge (by decide) h).trans ((c_X6_init_ge (by decide) (by decide) h).trans ((m_nw_ge (by decide) h).trans ((m_pr_ge (by decide) h).trans ((c_X6_init_ge (by decide) (by decide) h).trans ((m_nw_ge (by decide) h).trans ((m_pr_ge (by decide) h).trans ((c_X6_init_ge (by decide) (by decide) h).trans ((m_nw_ge (by decide) h).trans ((m_pr_ge (by decide) h).trans ((c_X6_init_ge (by decide) (by decide) h).trans ((m_nw_ge (by decide) h).trans ((m_pr_ge (by decide) h).trans ((c_X6_init_ge (by decide) (by decide) h).trans ((m_nw_ge (by decide) h).trans ((m_pr_ge (by decide) h).trans ((c_X6_init_ge (by decide) (by decide) h).trans ((m_nw_ge (by decide) h).trans ((m_pr_ge (by decide) h).trans (m_na_ge (by decide) h))))))))))))))))))))))))))))))))))))))))))))))))))))))))))))))))))))))))))))))))))))))))))))))))))))))))))))))))))))))))))
set_option maxRecDepth 20000 in
set_option maxHeartbeats 4000000 in
theorem c_X2_init_snd {fm : Value} {L : Nat} {xs : Nat → Int32} (mem : mM) (hq : mem.1[19]? = some (2, 3)) (hl : mem.1.length = 20) : mS fm L xs (fun _ : Unit => (mU, c_X2_init mem)) pg_X2_init 0 (m_entry [.ref 19] 2) [] mem (some ()) := by
  refine mS_steps (pc' := 7) (ls' := [.ref 19, mU]) (st' := [.int (40 : Int32), .ref 19]) (mem' := mem) 4 rfl ?_
  refine mS_naL (a := 20) (N := 40) rfl hl (by decide) (by decide) (by decide) (by decide) (fun m1 e1 l1 n1 k1 => ?_)
  have f1_0 := k1 _ _ hq
  refine mS_steps (pc' := 10) (ls' := [.ref 19, mU]) (st' := [.ref 20, .ref 19]) (mem' := m1) 0 rfl ?_
  refine mS_prg rfl f1_0 (by decide) (by decide) ?_
  refine mS_genM (mem := m1) l1 (fun _ _ h => h) (fun m2 e2 l2 k2 => ?_)
  have f2_0 := k2 _ _ f1_0
  have f2_1 := k2 _ _ n1
  refine mS_steps (pc' := 18) (ls' := [.ref 19, .int (0 : Int32)]) (st' := [.int (40 : Int32), .int (0 : Int32)]) (mem' := m2) 4 rfl ?_
  refine mS_one (pc' := 21) (ls' := [.ref 19, .int (0 : Int32)]) (st' := []) (mem' := m2) rfl (by decide) (by show some (bif decide ((40 : Int32) ≤ 0) then _ else _, _, _, _) = _; rw [show decide ((40 : Int32) ≤ 0) = false from by decide]; rfl) ?_
  refine mS_steps (pc' := 22) (ls' := [.ref 19, .int (0 : Int32)]) (st' := [.ref 19]) (mem' := m2) 1 rfl ?_
  refine mS_getg (r := 20) rfl f2_0 (by decide) (by decide) (by subst_vars; rfl) ?_
  refine mS_steps (pc' := 26) (ls' := [.ref 19, .int (0 : Int32)]) (st' := [.int (0 : Int32), .ref 20]) (mem' := m2) 1 rfl ?_
  refine mS_nwL (a := 21) rfl l2 (by decide) (fun m3 e3 l3 n3 k3 => ?_)
  have f3_0 := k3 _ _ f2_0
  have f3_1 := k3 _ _ f2_1
  refine mS_steps (pc' := 30) (ls' := [.ref 19, .int (0 : Int32)]) (st' := [.ref 21, .ref 21, .int (0 : Int32), .ref 20]) (mem' := m3) 1 rfl ?_
  refine mS_call (q := ()) 0 1 [.ref 21] [.ref 21, .int (0 : Int32), .ref 20] rfl rfl rfl ⟨_, _, _, rfl, rfl⟩ (Nat.le_of_ble_eq_true rfl) (Nat.le_of_ble_eq_true rfl) rfl (c_X6_init_snd 21 22 m3 n3 l3 (by decide)) ?_
  refine mS_steps (pc' := 33) (ls' := [.ref 19, .int (0 : Int32)]) (st' := [.ref 21, .int (0 : Int32), .ref 20]) (mem' := c_X6_init 21 22 m3) 0 rfl ?_
  refine mS_genM (mem := m3) (c_X6_init_len l3) (fun _ _ h => c_X6_init_at h) (fun m4 e4 l4 k4 => ?_)
  have f4_0 := k4 _ _ f3_0
  have f4_1 := k4 _ _ f3_1
  have f4_2 := k4 _ _ n3
  refine mS_steps (pc' := 33) (ls' := [.ref 19, .int (0 : Int32)]) (st' := [.ref 21, .int (0 : Int32), .ref 20]) (mem' := m4) 0 rfl ?_
  refine mS_aag (c := 0) rfl f4_1 (by decide) f4_2 (by decide) (by decide) (by decide) ?_
  refine mS_genM (mem := m4) l4 (fun _ _ h => h) (fun m5 e5 l5 k5 => ?_)
  have f5_0 := k5 _ _ f4_0
  have f5_1 := k5 _ _ f4_1
  have f5_2 := k5 _ _ f4_2
  refine mS_steps (pc' := 34) (ls' := [.ref 19, .int (0 : Int32)]) (st' := []) (mem' := m5) 0 rfl ?_
  refine mS_one (pc' := 37) (ls' := [.ref 19, .int (1 : Int32)]) (st' := []) (mem' := m5) rfl (by decide) (by show some (_, [Value.ref 19, Value.int ((0 : Int32) + 1)], _, _) = _; rw [show ((0 : Int32) + 1) = 1 from by decide]) ?_
  refine mS_steps (pc' := 18) (ls' := [.ref 19, .int (1 : Int32)]) (st' := [.int (40 : Int32), .int (1 : Int32)]) (mem' := m5) 3 rfl ?_
  refine mS_one (pc' := 21) (ls' := [.ref 19, .int (1 : Int32)]) (st' := []) (mem' := m5) rfl (by decide) (by show some (bif decide ((40 : Int32) ≤ 1) then _ else _, _, _, _) = _; rw [show decide ((40 : Int32) ≤ 1) = false from by decide]; rfl) ?_
  refine mS_steps (pc' := 22) (ls' := [.ref 19, .int (1 : Int32)]) (st' := [.ref 19]) (mem' := m5) 1 rfl ?_
  refine mS_getg (r := 20) rfl f5_0 (by decide) (by decide) (by subst_vars; rfl) ?_
  refine mS_steps (pc' := 26) (ls' := [.ref 19, .int (1 : Int32)]) (st' := [.int (1 : Int32), .ref 20]) (mem' := m5) 1 rfl ?_
  refine mS_nwL (a := 26) rfl l5 (by decide) (fun m6 e6 l6 n6 k6 => ?_)
  have f6_0 := k6 _ _ f5_0
  have f6_1 := k6 _ _ f5_1
  refine mS_steps (pc' := 30) (ls' := [.ref 19, .int (1 : Int32)]) (st' := [.ref 26, .ref 26, .int (1 : Int32), .ref 20]) (mem' := m6) 1 rfl ?_
  refine mS_call (q := ()) 0 1 [.ref 26] [.ref 26, .int (1 : Int32), .ref 20] rfl rfl rfl ⟨_, _, _, rfl, rfl⟩ (Nat.le_of_ble_eq_true rfl) (Nat.le_of_ble_eq_true rfl) rfl (c_X6_init_snd 26 27 m6 n6 l6 (by decide)) ?_
  refine mS_steps (pc' := 33) (ls' := [.ref 19, .int (1 : Int32)]) (st' := [.ref 26, .int (1 : Int32), .ref 20]) (mem' := c_X6_init 26 27 m6) 0 rfl ?_
  refine mS_genM (mem := m6) (c_X6_init_len l6) (fun _ _ h => c_X6_init_at h) (fun m7 e7 l7 k7 => ?_)
  have f7_0 := k7 _ _ f6_0
  have f7_1 := k7 _ _ f6_1
  have f7_3 := k7 _ _ n6
  refine mS_steps (pc' := 33) (ls' := [.ref 19, .int (1 : Int32)]) (st' := [.ref 26, .int (1 : Int32), .ref 20]) (mem' := m7) 0 rfl ?_
  refine mS_aag (c := 1) rfl f7_1 (by decide) f7_3 (by decide) (by decide) (by decide) ?_
  refine mS_genM (mem := m7) l7 (fun _ _ h => h) (fun m8 e8 l8 k8 => ?_)
  have f8_0 := k8 _ _ f7_0
  have f8_1 := k8 _ _ f7_1
  have f8_3 := k8 _ _ f7_3
  refine mS_steps (pc' := 34) (ls' := [.ref 19, .int (1 : Int32)]) (st' := []) (mem' := m8) 0 rfl ?_
  refine mS_one (pc' := 37) (ls' := [.ref 19, .int (2 : Int32)]) (st' := []) (mem' := m8) rfl (by decide) (by show some (_, [Value.ref 19, Value.int ((1 : Int32) + 1)], _, _) = _; rw [show ((1 : Int32) + 1) = 2 from by decide]) ?_
  refine mS_steps (pc' := 18) (ls' := [.ref 19, .int (2 : Int32)]) (st' := [.int (40 : Int32), .int (2 : Int32)]) (mem' := m8) 3 rfl ?_
  refine mS_one (pc' := 21) (ls' := [.ref 19, .int (2 : Int32)]) (st' := []) (mem' := m8) rfl (by decide) (by show some (bif decide ((40 : Int32) ≤ 2) then _ else _, _, _, _) = _; rw [show decide ((40 : Int32) ≤ 2) = false from by decide]; rfl) ?_
  refine mS_steps (pc' := 22) (ls' := [.ref 19, .int (2 : Int32)]) (st' := [.ref 19]) (mem' := m8) 1 rfl ?_
  refine mS_getg (r := 20) rfl f8_0 (by decide) (by decide) (by subst_vars; rfl) ?_
  refine mS_steps (pc' := 26) (ls' := [.ref 19, .int (2 : Int32)]) (st' := [.int (2 : Int32), .ref 20]) (mem' := m8) 1 rfl ?_
  refine mS_nwL (a := 31) rfl l8 (by decide) (fun m9 e9 l9 n9 k9 => ?_)
  have f9_0 := k9 _ _ f8_0
  have f9_1 := k9 _ _ f8_1
  refine mS_steps (pc' := 30) (ls' := [.ref 19, .int (2 : Int32)]) (st' := [.ref 31, .ref 31, .int (2 : Int32), .ref 20]) (mem' := m9) 1 rfl ?_
  refine mS_call (q := ()) 0 1 [.ref 31] [.ref 31, .int (2 : Int32), .ref 20] rfl rfl rfl ⟨_, _, _, rfl, rfl⟩ (Nat.le_of_ble_eq_true rfl) (Nat.le_of_ble_eq_true rfl) rfl (c_X6_init_snd 31 32 m9 n9 l9 (by decide)) ?_
  refine mS_steps (pc' := 33) (ls' := [.ref 19, .int (2 : Int32)]) (st' := [.ref 31, .int (2 : Int32), .ref 20]) (mem' := c_X6_init 31 32 m9) 0 rfl ?_
  refine mS_genM (mem := m9) (c_X6_init_len l9) (fun _ _ h => c_X6_init_at h) (fun m10 e10 l10 k10 => ?_)
  have f10_0 := k10 _ _ f9_0
  have f10_1 := k10 _ _ f9_1
  have f10_4 := k10 _ _ n9
  refine mS_steps (pc' := 33) (ls' := [.ref 19, .int (2 : Int32)]) (st' := [.ref 31, .int (2 : Int32), .ref 20]) (mem' := m10) 0 rfl ?_
  refine mS_aag (c := 2) rfl f10_1 (by decide) f10_4 (by decide) (by decide) (by decide) ?_
  refine mS_genM (mem := m10) l10 (fun _ _ h => h) (fun m11 e11 l11 k11 => ?_)
  have f11_0 := k11 _ _ f10_0
  have f11_1 := k11 _ _ f10_1
  have f11_4 := k11 _ _ f10_4
  refine mS_steps (pc' := 34) (ls' := [.ref 19, .int (2 : Int32)]) (st' := []) (mem' := m11) 0 rfl ?_
  refine mS_one (pc' := 37) (ls' := [.ref 19, .int (3 : Int32)]) (st' := []) (mem' := m11) rfl (by decide) (by show some (_, [Value.ref 19, Value.int ((2 : Int32) + 1)], _, _) = _; rw [show ((2 : Int32) + 1) = 3 from by decide]) ?_
  refine mS_steps (pc' := 18) (ls' := [.ref 19, .int (3 : Int32)]) (st' := [.int (40 : Int32), .int (3 : Int32)]) (mem' := m11) 3 rfl ?_
  refine mS_one (pc' := 21) (ls' := [.ref 19, .int (3 : Int32)]) (st' := []) (mem' := m11) rfl (by decide) (by show some (bif decide ((40 : Int32) ≤ 3) then _ else _, _, _, _) = _; rw [show decide ((40 : Int32) ≤ 3) = false from by decide]; rfl) ?_
  refine mS_steps (pc' := 22) (ls' := [.ref 19, .int (3 : Int32)]) (st' := [.ref 19]) (mem' := m11) 1 rfl ?_
  refine mS_getg (r := 20) rfl f11_0 (by decide) (by decide) (by subst_vars; rfl) ?_
  refine mS_steps (pc' := 26) (ls' := [.ref 19, .int (3 : Int32)]) (st' := [.int (3 : Int32), .ref 20]) (mem' := m11) 1 rfl ?_
  refine mS_nwL (a := 36) rfl l11 (by decide) (fun m12 e12 l12 n12 k12 => ?_)
  have f12_0 := k12 _ _ f11_0
  have f12_1 := k12 _ _ f11_1
  refine mS_steps (pc' := 30) (ls' := [.ref 19, .int (3 : Int32)]) (st' := [.ref 36, .ref 36, .int (3 : Int32), .ref 20]) (mem' := m12) 1 rfl ?_
  refine mS_call (q := ()) 0 1 [.ref 36] [.ref 36, .int (3 : Int32), .ref 20] rfl rfl rfl ⟨_, _, _, rfl, rfl⟩ (Nat.le_of_ble_eq_true rfl) (Nat.le_of_ble_eq_true rfl) rfl (c_X6_init_snd 36 37 m12 n12 l12 (by decide)) ?_
  refine mS_steps (pc' := 33) (ls' := [.ref 19, .int (3 : Int32)]) (st' := [.ref 36, .int (3 : Int32), .ref 20]) (mem' := c_X6_init 36 37 m12) 0 rfl ?_
  refine mS_genM (mem := m12) (c_X6_init_len l12) (fun _ _ h => c_X6_init_at h) (fun m13 e13 l13 k13 => ?_)
  have f13_0 := k13 _ _ f12_0
  have f13_1 := k13 _ _ f12_1
  have f13_5 := k13 _ _ n12
  refine mS_steps (pc' := 33) (ls' := [.ref 19, .int (3 : Int32)]) (st' := [.ref 36, .int (3 : Int32), .ref 20]) (mem' := m13) 0 rfl ?_
  refine mS_aag (c := 3) rfl f13_1 (by decide) f13_5 (by decide) (by decide) (by decide) ?_
  refine mS_genM (mem := m13) l13 (fun _ _ h => h) (fun m14 e14 l14 k14 => ?_)
  have f14_0 := k14 _ _ f13_0
  have f14_1 := k14 _ _ f13_1
  have f14_5 := k14 _ _ f13_5
  refine mS_steps (pc' := 34) (ls' := [.ref 19, .int (3 : Int32)]) (st' := []) (mem' := m14) 0 rfl ?_
  refine mS_one (pc' := 37) (ls' := [.ref 19, .int (4 : Int32)]) (st' := []) (mem' := m14) rfl (by decide) (by show some (_, [Value.ref 19, Value.int ((3 : Int32) + 1)], _, _) = _; rw [show ((3 : Int32) + 1) = 4 from by decide]) ?_
  refine mS_steps (pc' := 18) (ls' := [.ref 19, .int (4 : Int32)]) (st' := [.int (40 : Int32), .int (4 : Int32)]) (mem' := m14) 3 rfl ?_
  refine mS_one (pc' := 21) (ls' := [.ref 19, .int (4 : Int32)]) (st' := []) (mem' := m14) rfl (by decide) (by show some (bif decide ((40 : Int32) ≤ 4) then _ else _, _, _, _) = _; rw [show decide ((40 : Int32) ≤ 4) = false from by decide]; rfl) ?_
  refine mS_steps (pc' := 22) (ls' := [.ref 19, .int (4 : Int32)]) (st' := [.ref 19]) (mem' := m14) 1 rfl ?_
  refine mS_getg (r := 20) rfl f14_0 (by decide) (by decide) (by subst_vars; rfl) ?_
  refine mS_steps (pc' := 26) (ls' := [.ref 19, .int (4 : Int32)]) (st' := [.int (4 : Int32), .ref 20]) (mem' := m14) 1 rfl ?_
  refine mS_nwL (a := 41) rfl l14 (by decide) (fun m15 e15 l15 n15 k15 => ?_)
  have f15_0 := k15 _ _ f14_0
  have f15_1 := k15 _ _ f14_1
  refine mS_steps (pc' := 30) (ls' := [.ref 19, .int (4 : Int32)]) (st' := [.ref 41, .ref 41, .int (4 : Int32), .ref 20]) (mem' := m15) 1 rfl ?_
  refine mS_call (q := ()) 0 1 [.ref 41] [.ref 41, .int (4 : Int32), .ref 20] rfl rfl rfl ⟨_, _, _, rfl, rfl⟩ (Nat.le_of_ble_eq_true rfl) (Nat.le_of_ble_eq_true rfl) rfl (c_X6_init_snd 41 42 m15 n15 l15 (by decide)) ?_
  refine mS_steps (pc' := 33) (ls' := [.ref 19, .int (4 : Int32)]) (st' := [.ref 41, .int (4 : Int32), .ref 20]) (mem' := c_X6_init 41 42 m15) 0 rfl ?_
  refine mS_genM (mem := m15) (c_X6_init_len l15) (fun _ _ h => c_X6_init_at h) (fun m16 e16 l16 k16 => ?_)
  have f16_0 := k16 _ _ f15_0
  have f16_1 := k16 _ _ f15_1
  have f16_6 := k16 _ _ n15
  refine mS_steps (pc' := 33) (ls' := [.ref 19, .int (4 : Int32)]) (st' := [.ref 41, .int (4 : Int32), .ref 20]) (mem' := m16) 0 rfl ?_
  refine mS_aag (c := 4) rfl f16_1 (by decide) f16_6 (by decide) (by decide) (by decide) ?_
  refine mS_genM (mem := m16) l16 (fun _ _ h => h) (fun m17 e17 l17 k17 => ?_)
  have f17_0 := k17 _ _ f16_0
  have f17_1 := k17 _ _ f16_1
  have f17_6 := k17 _ _ f16_6
  refine mS_steps (pc' := 34) (ls' := [.ref 19, .int (4 : Int32)]) (st' := []) (mem' := m17) 0 rfl ?_
  refine mS_one (pc' := 37) (ls' := [.ref 19, .int (5 : Int32)]) (st' := []) (mem' := m17) rfl (by decide) (by show some (_, [Value.ref 19, Value.int ((4 : Int32) + 1)], _, _) = _; rw [show ((4 : Int32) + 1) = 5 from by decide]) ?_
  refine mS_steps (pc' := 18) (ls' := [.ref 19, .int (5 : Int32)]) (st' := [.int (40 : Int32), .int (5 : Int32)]) (mem' := m17) 3 rfl ?_
  refine mS_one (pc' := 21) (ls' := [.ref 19, .int (5 : Int32)]) (st' := []) (mem' := m17) rfl (by decide) (by show some (bif decide ((40 : Int32) ≤ 5) then _ else _, _, _, _) = _; rw [show decide ((40 : Int32) ≤ 5) = false from by decide]; rfl) ?_
  refine mS_steps (pc' := 22) (ls' := [.ref 19, .int (5 : Int32)]) (st' := [.ref 19]) (mem' := m17) 1 rfl ?_
  refine mS_getg (r := 20) rfl f17_0 (by decide) (by decide) (by subst_vars; rfl) ?_
  refine mS_steps (pc' := 26) (ls' := [.ref 19, .int (5 : Int32)]) (st' := [.int (5 : Int32), .ref 20]) (mem' := m17) 1 rfl ?_
  refine mS_nwL (a := 46) rfl l17 (by decide) (fun m18 e18 l18 n18 k18 => ?_)
  have f18_0 := k18 _ _ f17_0
  have f18_1 := k18 _ _ f17_1
  refine mS_steps (pc' := 30) (ls' := [.ref 19, .int (5 : Int32)]) (st' := [.ref 46, .ref 46, .int (5 : Int32), .ref 20]) (mem' := m18) 1 rfl ?_
  refine mS_call (q := ()) 0 1 [.ref 46] [.ref 46, .int (5 : Int32), .ref 20] rfl rfl rfl ⟨_, _, _, rfl, rfl⟩ (Nat.le_of_ble_eq_true rfl) (Nat.le_of_ble_eq_true rfl) rfl (c_X6_init_snd 46 47 m18 n18 l18 (by decide)) ?_
  refine mS_steps (pc' := 33) (ls' := [.ref 19, .int (5 : Int32)]) (st' := [.ref 46, .int (5 : Int32), .ref 20]) (mem' := c_X6_init 46 47 m18) 0 rfl ?_
  refine mS_genM (mem := m18) (c_X6_init_len l18) (fun _ _ h => c_X6_init_at h) (fun m19 e19 l19 k19 => ?_)
  have f19_0 := k19 _ _ f18_0
  have f19_1 := k19 _ _ f18_1
  have f19_7 := k19 _ _ n18
  refine mS_steps (pc' := 33) (ls' := [.ref 19, .int (5 : Int32)]) (st' := [.ref 46, .int (5 : Int32), .ref 20]) (mem' := m19) 0 rfl ?_
  refine mS_aag (c := 5) rfl f19_1 (by decide) f19_7 (by decide) (by decide) (by decide) ?_
  refine mS_genM (mem := m19) l19 (fun _ _ h => h) (fun m20 e20 l20 k20 => ?_)
  have f20_0 := k20 _ _ f19_0
  have f20_1 := k20 _ _ f19_1
  have f20_7 := k20 _ _ f19_7
  refine mS_steps (pc' := 34) (ls' := [.ref 19, .int (5 : Int32)]) (st' := []) (mem' := m20) 0 rfl ?_
  refine mS_one (pc' := 37) (ls' := [.ref 19, .int (6 : Int32)]) (st' := []) (mem' := m20) rfl (by decide) (by show some (_, [Value.ref 19, Value.int ((5 : Int32) + 1)], _, _) = _; rw [show ((5 : Int32) + 1) = 6 from by decide]) ?_
  refine mS_steps (pc' := 18) (ls' := [.ref 19, .int (6 : Int32)]) (st' := [.int (40 : Int32), .int (6 : Int32)]) (mem' := m20) 3 rfl ?_
  refine mS_one (pc' := 21) (ls' := [.ref 19, .int (6 : Int32)]) (st' := []) (mem' := m20) rfl (by decide) (by show some (bif decide ((40 : Int32) ≤ 6) then _ else _, _, _, _) = _; rw [show decide ((40 : Int32) ≤ 6) = false from by decide]; rfl) ?_
  refine mS_steps (pc' := 22) (ls' := [.ref 19, .int (6 : Int32)]) (st' := [.ref 19]) (mem' := m20) 1 rfl ?_
  refine mS_getg (r := 20) rfl f20_0 (by decide) (by decide) (by subst_vars; rfl) ?_
  refine mS_steps (pc' := 26) (ls' := [.ref 19, .int (6 : Int32)]) (st' := [.int (6 : Int32), .ref 20]) (mem' := m20) 1 rfl ?_
  refine mS_nwL (a := 51) rfl l20 (by decide) (fun m21 e21 l21 n21 k21 => ?_)
  have f21_0 := k21 _ _ f20_0
  have f21_1 := k21 _ _ f20_1
  refine mS_steps (pc' := 30) (ls' := [.ref 19, .int (6 : Int32)]) (st' := [.ref 51, .ref 51, .int (6 : Int32), .ref 20]) (mem' := m21) 1 rfl ?_
  refine mS_call (q := ()) 0 1 [.ref 51] [.ref 51, .int (6 : Int32), .ref 20] rfl rfl rfl ⟨_, _, _, rfl, rfl⟩ (Nat.le_of_ble_eq_true rfl) (Nat.le_of_ble_eq_true rfl) rfl (c_X6_init_snd 51 52 m21 n21 l21 (by decide)) ?_
  refine mS_steps (pc' := 33) (ls' := [.ref 19, .int (6 : Int32)]) (st' := [.ref 51, .int (6 : Int32), .ref 20]) (mem' := c_X6_init 51 52 m21) 0 rfl ?_
  refine mS_genM (mem := m21) (c_X6_init_len l21) (fun _ _ h => c_X6_init_at h) (fun m22 e22 l22 k22 => ?_)
  have f22_0 := k22 _ _ f21_0
  have f22_1 := k22 _ _ f21_1
  have f22_8 := k22 _ _ n21
  refine mS_steps (pc' := 33) (ls' := [.ref 19, .int (6 : Int32)]) (st' := [.ref 51, .int (6 : Int32), .ref 20]) (mem' := m22) 0 rfl ?_
  refine mS_aag (c := 6) rfl f22_1 (by decide) f22_8 (by decide) (by decide) (by decide) ?_
  refine mS_genM (mem := m22) l22 (fun _ _ h => h) (fun m23 e23 l23 k23 => ?_)
  have f23_0 := k23 _ _ f22_0
  have f23_1 := k23 _ _ f22_1
  have f23_8 := k23 _ _ f22_8
  refine mS_steps (pc' := 34) (ls' := [.ref 19, .int (6 : Int32)]) (st' := []) (mem' := m23) 0 rfl ?_
  refine mS_one (pc' := 37) (ls' := [.ref 19, .int (7 : Int32)]) (st' := []) (mem' := m23) rfl (by decide) (by show some (_, [Value.ref 19, Value.int ((6 : Int32) + 1)], _, _) = _; rw [show ((6 : Int32) + 1) = 7 from by decide]) ?_
  refine mS_steps (pc' := 18) (ls' := [.ref 19, .int (7 : Int32)]) (st' := [.int (40 : Int32), .int (7 : Int32)]) (mem' := m23) 3 rfl ?_
  refine mS_one (pc' := 21) (ls' := [.ref 19, .int (7 : Int32)]) (st' := []) (mem' := m23) rfl (by decide) (by show some (bif decide ((40 : Int32) ≤ 7) then _ else _, _, _, _) = _; rw [show decide ((40 : Int32) ≤ 7) = false from by decide]; rfl) ?_
  refine mS_steps (pc' := 22) (ls' := [.ref 19, .int (7 : Int32)]) (st' := [.ref 19]) (mem' := m23) 1 rfl ?_
  refine mS_getg (r := 20) rfl f23_0 (by decide) (by decide) (by subst_vars; rfl) ?_
  refine mS_steps (pc' := 26) (ls' := [.ref 19, .int (7 : Int32)]) (st' := [.int (7 : Int32), .ref 20]) (mem' := m23) 1 rfl ?_
  refine mS_nwL (a := 56) rfl l23 (by decide) (fun m24 e24 l24 n24 k24 => ?_)
  have f24_0 := k24 _ _ f23_0
  have f24_1 := k24 _ _ f23_1
  refine mS_steps (pc' := 30) (ls' := [.ref 19, .int (7 : Int32)]) (st' := [.ref 56, .ref 56, .int (7 : Int32), .ref 20]) (mem' := m24) 1 rfl ?_
  refine mS_call (q := ()) 0 1 [.ref 56] [.ref 56, .int (7 : Int32), .ref 20] rfl rfl rfl ⟨_, _, _, rfl, rfl⟩ (Nat.le_of_ble_eq_true rfl) (Nat.le_of_ble_eq_true rfl) rfl (c_X6_init_snd 56 57 m24 n24 l24 (by decide)) ?_
  refine mS_steps (pc' := 33) (ls' := [.ref 19, .int (7 : Int32)]) (st' := [.ref 56, .int (7 : Int32), .ref 20]) (mem' := c_X6_init 56 57 m24) 0 rfl ?_
  refine mS_genM (mem := m24) (c_X6_init_len l24) (fun _ _ h => c_X6_init_at h) (fun m25 e25 l25 k25 => ?_)
  have f25_0 := k25 _ _ f24_0
  have f25_1 := k25 _ _ f24_1
  have f25_9 := k25 _ _ n24
  refine mS_steps (pc' := 33) (ls' := [.ref 19, .int (7 : Int32)]) (st' := [.ref 56, .int (7 : Int32), .ref 20]) (mem' := m25) 0 rfl ?_
  refine mS_aag (c := 7) rfl f25_1 (by decide) f25_9 (by decide) (by decide) (by decide) ?_
  refine mS_genM (mem := m25) l25 (fun _ _ h => h) (fun m26 e26 l26 k26 => ?_)
  have f26_0 := k26 _ _ f25_0
  have f26_1 := k26 _ _ f25_1
  have f26_9 := k26 _ _ f25_9
  refine mS_steps (pc' := 34) (ls' := [.ref 19, .int (7 : Int32)]) (st' := []) (mem' := m26) 0 rfl ?_
  refine mS_one (pc' := 37) (ls' := [.ref 19, .int (8 : Int32)]) (st' := []) (mem' := m26) rfl (by decide) (by show some (_, [Value.ref 19, Value.int ((7 : Int32) + 1)], _, _) = _; rw [show ((7 : Int32) + 1) = 8 from by decide]) ?_
  refine mS_steps (pc' := 18) (ls' := [.ref 19, .int (8 : Int32)]) (st' := [.int (40 : Int32), .int (8 : Int32)]) (mem' := m26) 3 rfl ?_
  refine mS_one (pc' := 21) (ls' := [.ref 19, .int (8 : Int32)]) (st' := []) (mem' := m26) rfl (by decide) (by show some (bif decide ((40 : Int32) ≤ 8) then _ else _, _, _, _) = _; rw [show decide ((40 : Int32) ≤ 8) = false from by decide]; rfl) ?_
  refine mS_steps (pc' := 22) (ls' := [.ref 19, .int (8 : Int32)]) (st' := [.ref 19]) (mem' := m26) 1 rfl ?_
  refine mS_getg (r := 20) rfl f26_0 (by decide) (by decide) (by subst_vars; rfl) ?_
  refine mS_steps (pc' := 26) (ls' := [.ref 19, .int (8 : Int32)]) (st' := [.int (8 : Int32), .ref 20]) (mem' := m26) 1 rfl ?_
  refine mS_nwL (a := 61) rfl l26 (by decide) (fun m27 e27 l27 n27 k27 => ?_)
  have f27_0 := k27 _ _ f26_0
  have f27_1 := k27 _ _ f26_1
  refine mS_steps (pc' := 30) (ls' := [.ref 19, .int (8 : Int32)]) (st' := [.ref 61, .ref 61, .int (8 : Int32), .ref 20]) (mem' := m27) 1 rfl ?_
  refine mS_call (q := ()) 0 1 [.ref 61] [.ref 61, .int (8 : Int32), .ref 20] rfl rfl rfl ⟨_, _, _, rfl, rfl⟩ (Nat.le_of_ble_eq_true rfl) (Nat.le_of_ble_eq_true rfl) rfl (c_X6_init_snd 61 62 m27 n27 l27 (by decide)) ?_
  refine mS_steps (pc' := 33) (ls' := [.ref 19, .int (8 : Int32)]) (st' := [.ref 61, .int (8 : Int32), .ref 20]) (mem' := c_X6_init 61 62 m27) 0 rfl ?_
  refine mS_genM (mem := m27) (c_X6_init_len l27) (fun _ _ h => c_X6_init_at h) (fun m28 e28 l28 k28 => ?_)
  have f28_0 := k28 _ _ f27_0
  have f28_1 := k28 _ _ f27_1
  have f28_10 := k28 _ _ n27
  refine mS_steps (pc' := 33) (ls' := [.ref 19, .int (8 : Int32)]) (st' := [.ref 61, .int (8 : Int32), .ref 20]) (mem' := m28) 0 rfl ?_
  refine mS_aag (c := 8) rfl f28_1 (by decide) f28_10 (by decide) (by decide) (by decide) ?_
  refine mS_genM (mem := m28) l28 (fun _ _ h => h) (fun m29 e29 l29 k29 => ?_)
  have f29_0 := k29 _ _ f28_0
  have f29_1 := k29 _ _ f28_1
  have f29_10 := k29 _ _ f28_10
  refine mS_steps (pc' := 34) (ls' := [.ref 19, .int (8 : Int32)]) (st' := []) (mem' := m29) 0 rfl ?_
  refine mS_one (pc' := 37) (ls' := [.ref 19, .int (9 : Int32)]) (st' := []) (mem' := m29) rfl (by decide) (by show some (_, [Value.ref 19, Value.int ((8 : Int32) + 1)], _, _) = _; rw [show ((8 : Int32) + 1) = 9 from by decide]) ?_
  refine mS_steps (pc' := 18) (ls' := [.ref 19, .int (9 : Int32)]) (st' := [.int (40 : Int32), .int (9 : Int32)]) (mem' := m29) 3 rfl ?_
  refine mS_one (pc' := 21) (ls' := [.ref 19, .int (9 : Int32)]) (st' := []) (mem' := m29) rfl (by decide) (by show some (bif decide ((40 : Int32) ≤ 9) then _ else _, _, _, _) = _; rw [show decide ((40 : Int32) ≤ 9) = false from by decide]; rfl) ?_
  refine mS_steps (pc' := 22) (ls' := [.ref 19, .int (9 : Int32)]) (st' := [.ref 19]) (mem' := m29) 1 rfl ?_
  refine mS_getg (r := 20) rfl f29_0 (by decide) (by decide) (by subst_vars; rfl) ?_
  refine mS_steps (pc' := 26) (ls' := [.ref 19, .int (9 : Int32)]) (st' := [.int (9 : Int32), .ref 20]) (mem' := m29) 1 rfl ?_
  refine mS_nwL (a := 66) rfl l29 (by decide) (fun m30 e30 l30 n30 k30 => ?_)
  have f30_0 := k30 _ _ f29_0
  have f30_1 := k30 _ _ f29_1
  refine mS_steps (pc' := 30) (ls' := [.ref 19, .int (9 : Int32)]) (st' := [.ref 66, .ref 66, .int (9 : Int32), .ref 20]) (mem' := m30) 1 rfl ?_
  refine mS_call (q := ()) 0 1 [.ref 66] [.ref 66, .int (9 : Int32), .ref 20] rfl rfl rfl ⟨_, _, _, rfl, rfl⟩ (Nat.le_of_ble_eq_true rfl) (Nat.le_of_ble_eq_true rfl) rfl (c_X6_init_snd 66 67 m30 n30 l30 (by decide)) ?_
  refine mS_steps (pc' := 33) (ls' := [.ref 19, .int (9 : Int32)]) (st' := [.ref 66, .int (9 : Int32), .ref 20]) (mem' := c_X6_init 66 67 m30) 0 rfl ?_
  refine mS_genM (mem := m30) (c_X6_init_len l30) (fun _ _ h => c_X6_init_at h) (fun m31 e31 l31 k31 => ?_)
  have f31_0 := k31 _ _ f30_0
  have f31_1 := k31 _ _ f30_1
  have f31_11 := k31 _ _ n30
  refine mS_steps (pc' := 33) (ls' := [.ref 19, .int (9 : Int32)]) (st' := [.ref 66, .int (9 : Int32), .ref 20]) (mem' := m31) 0 rfl ?_
  refine mS_aag (c := 9) rfl f31_1 (by decide) f31_11 (by decide) (by decide) (by decide) ?_
  refine mS_genM (mem := m31) l31 (fun _ _ h => h) (fun m32 e32 l32 k32 => ?_)
  have f32_0 := k32 _ _ f31_0
  have f32_1 := k32 _ _ f31_1
  have f32_11 := k32 _ _ f31_11
  refine mS_steps (pc' := 34) (ls' := [.ref 19, .int (9 : Int32)]) (st' := []) (mem' := m32) 0 rfl ?_
  refine mS_one (pc' := 37) (ls' := [.ref 19, .int (10 : Int32)]) (st' := []) (mem' := m32) rfl (by decide) (by show some (_, [Value.ref 19, Value.int ((9 : Int32) + 1)], _, _) = _; rw [show ((9 : Int32) + 1) = 10 from by decide]) ?_
  refine mS_steps (pc' := 18) (ls' := [.ref 19, .int (10 : Int32)]) (st' := [.int (40 : Int32), .int (10 : Int32)]) (mem' := m32) 3 rfl ?_
  refine mS_one (pc' := 21) (ls' := [.ref 19, .int (10 : Int32)]) (st' := []) (mem' := m32) rfl (by decide) (by show some (bif decide ((40 : Int32) ≤ 10) then _ else _, _, _, _) = _; rw [show decide ((40 : Int32) ≤ 10) = false from by decide]; rfl) ?_
  refine mS_steps (pc' := 22) (ls' := [.ref 19, .int (10 : Int32)]) (st' := [.ref 19]) (mem' := m32) 1 rfl ?_
  refine mS_getg (r := 20) rfl f32_0 (by decide) (by decide) (by subst_vars; rfl) ?_
  refine mS_steps (pc' := 26) (ls' := [.ref 19, .int (10 : Int32)]) (st' := [.int (10 : Int32), .ref 20]) (mem' := m32) 1 rfl ?_
  refine mS_nwL (a := 71) rfl l32 (by decide) (fun m33 e33 l33 n33 k33 => ?_)
  have f33_0 := k33 _ _ f32_0
  have f33_1 := k33 _ _ f32_1
  refine mS_steps (pc' := 30) (ls' := [.ref 19, .int (10 : Int32)]) (st' := [.ref 71, .ref 71, .int (10 : Int32), .ref 20]) (mem' := m33) 1 rfl ?_
  refine mS_call (q := ()) 0 1 [.ref 71] [.ref 71, .int (10 : Int32), .ref 20] rfl rfl rfl ⟨_, _, _, rfl, rfl⟩ (Nat.le_of_ble_eq_true rfl) (Nat.le_of_ble_eq_true rfl) rfl (c_X6_init_snd 71 72 m33 n33 l33 (by decide)) ?_
  refine mS_steps (pc' := 33) (ls' := [.ref 19, .int (10 : Int32)]) (st' := [.ref 71, .int (10 : Int32), .ref 20]) (mem' := c_X6_init 71 72 m33) 0 rfl ?_
  refine mS_genM (mem := m33) (c_X6_init_len l33) (fun _ _ h => c_X6_init_at h) (fun m34 e34 l34 k34 => ?_)
  have f34_0 := k34 _ _ f33_0
  have f34_1 := k34 _ _ f33_1
  have f34_12 := k34 _ _ n33
  refine mS_steps (pc' := 33) (ls' := [.ref 19, .int (10 : Int32)]) (st' := [.ref 71, .int (10 : Int32), .ref 20]) (mem' := m34) 0 rfl ?_
  refine mS_aag (c := 10) rfl f34_1 (by decide) f34_12 (by decide) (by decide) (by decide) ?_
  refine mS_genM (mem := m34) l34 (fun _ _ h => h) (fun m35 e35 l35 k35 => ?_)
  have f35_0 := k35 _ _ f34_0
  have f35_1 := k35 _ _ f34_1
  have f35_12 := k35 _ _ f34_12
  refine mS_steps (pc' := 34) (ls' := [.ref 19, .int (10 : Int32)]) (st' := []) (mem' := m35) 0 rfl ?_
  refine mS_one (pc' := 37) (ls' := [.ref 19, .int (11 : Int32)]) (st' := []) (mem' := m35) rfl (by decide) (by show some (_, [Value.ref 19, Value.int ((10 : Int32) + 1)], _, _) = _; rw [show ((10 : Int32) + 1) = 11 from by decide]) ?_
  refine mS_steps (pc' := 18) (ls' := [.ref 19, .int (11 : Int32)]) (st' := [.int (40 : Int32), .int (11 : Int32)]) (mem' := m35) 3 rfl ?_
  refine mS_one (pc' := 21) (ls' := [.ref 19, .int (11 : Int32)]) (st' := []) (mem' := m35) rfl (by decide) (by show some (bif decide ((40 : Int32) ≤ 11) then _ else _, _, _, _) = _; rw [show decide ((40 : Int32) ≤ 11) = false from by decide]; rfl) ?_
  refine mS_steps (pc' := 22) (ls' := [.ref 19, .int (11 : Int32)]) (st' := [.ref 19]) (mem' := m35) 1 rfl ?_
  refine mS_getg (r := 20) rfl f35_0 (by decide) (by decide) (by subst_vars; rfl) ?_
  refine mS_steps (pc' := 26) (ls' := [.ref 19, .int (11 : Int32)]) (st' := [.int (11 : Int32), .ref 20]) (mem' := m35) 1 rfl ?_
  refine mS_nwL (a := 76) rfl l35 (by decide) (fun m36 e36 l36 n36 k36 => ?_)
  have f36_0 := k36 _ _ f35_0
  have f36_1 := k36 _ _ f35_1
  refine mS_steps (pc' := 30) (ls' := [.ref 19, .int (11 : Int32)]) (st' := [.ref 76, .ref 76, .int (11 : Int32), .ref 20]) (mem' := m36) 1 rfl ?_
  refine mS_call (q := ()) 0 1 [.ref 76] [.ref 76, .int (11 : Int32), .ref 20] rfl rfl rfl ⟨_, _, _, rfl, rfl⟩ (Nat.le_of_ble_eq_true rfl) (Nat.le_of_ble_eq_true rfl) rfl (c_X6_init_snd 76 77 m36 n36 l36 (by decide)) ?_
  refine mS_steps (pc' := 33) (ls' := [.ref 19, .int (11 : Int32)]) (st' := [.ref 76, .int (11 : Int32), .ref 20]) (mem' := c_X6_init 76 77 m36) 0 rfl ?_
  refine mS_genM (mem := m36) (c_X6_init_len l36) (fun _ _ h => c_X6_init_at h) (fun m37 e37 l37 k37 => ?_)
  have f37_0 := k37 _ _ f36_0
  have f37_1 := k37 _ _ f36_1
  have f37_13 := k37 _ _ n36
  refine mS_steps (pc' := 33) (ls' := [.ref 19, .int (11 : Int32)]) (st' := [.ref 76, .int (11 : Int32), .ref 20]) (mem' := m37) 0 rfl ?_
  refine mS_aag (c := 11) rfl f37_1 (by decide) f37_13 (by decide) (by decide) (by decide) ?_
  refine mS_genM (mem := m37) l37 (fun _ _ h => h) (fun m38 e38 l38 k38 => ?_)
  have f38_0 := k38 _ _ f37_0
  have f38_1 := k38 _ _ f37_1
  have f38_13 := k38 _ _ f37_13
  refine mS_steps (pc' := 34) (ls' := [.ref 19, .int (11 : Int32)]) (st' := []) (mem' := m38) 0 rfl ?_
  refine mS_one (pc' := 37) (ls' := [.ref 19, .int (12 : Int32)]) (st' := []) (mem' := m38) rfl (by decide) (by show some (_, [Value.ref 19, Value.int ((11 : Int32) + 1)], _, _) = _; rw [show ((11 : Int32) + 1) = 12 from by decide]) ?_
  refine mS_steps (pc' := 18) (ls' := [.ref 19, .int (12 : Int32)]) (st' := [.int (40 : Int32), .int (12 : Int32)]) (mem' := m38) 3 rfl ?_
  refine mS_one (pc' := 21) (ls' := [.ref 19, .int (12 : Int32)]) (st' := []) (mem' := m38) rfl (by decide) (by show some (bif decide ((40 : Int32) ≤ 12) then _ else _, _, _, _) = _; rw [show decide ((40 : Int32) ≤ 12) = false from by decide]; rfl) ?_
  refine mS_steps (pc' := 22) (ls' := [.ref 19, .int (12 : Int32)]) (st' := [.ref 19]) (mem' := m38) 1 rfl ?_
  refine mS_getg (r := 20) rfl f38_0 (by decide) (by decide) (by subst_vars; rfl) ?_
  refine mS_steps (pc' := 26) (ls' := [.ref 19, .int (12 : Int32)]) (st' := [.int (12 : Int32), .ref 20]) (mem' := m38) 1 rfl ?_
  refine mS_nwL (a := 81) rfl l38 (by decide) (fun m39 e39 l39 n39 k39 => ?_)
  have f39_0 := k39 _ _ f38_0
  have f39_1 := k39 _ _ f38_1
  refine mS_steps (pc' := 30) (ls' := [.ref 19, .int (12 : Int32)]) (st' := [.ref 81, .ref 81, .int (12 : Int32), .ref 20]) (mem' := m39) 1 rfl ?_
  refine mS_call (q := ()) 0 1 [.ref 81] [.ref 81, .int (12 : Int32), .ref 20] rfl rfl rfl ⟨_, _, _, rfl, rfl⟩ (Nat.le_of_ble_eq_true rfl) (Nat.le_of_ble_eq_true rfl) rfl (c_X6_init_snd 81 82 m39 n39 l39 (by decide)) ?_
  refine mS_steps (pc' := 33) (ls' := [.ref 19, .int (12 : Int32)]) (st' := [.ref 81, .int (12 : Int32), .ref 20]) (mem' := c_X6_init 81 82 m39) 0 rfl ?_
  refine mS_genM (mem := m39) (c_X6_init_len l39) (fun _ _ h => c_X6_init_at h) (fun m40 e40 l40 k40 => ?_)
  have f40_0 := k40 _ _ f39_0
  have f40_1 := k40 _ _ f39_1
  have f40_14 := k40 _ _ n39
  refine mS_steps (pc' := 33) (ls' := [.ref 19, .int (12 : Int32)]) (st' := [.ref 81, .int (12 : Int32), .ref 20]) (mem' := m40) 0 rfl ?_
  refine mS_aag (c := 12) rfl f40_1 (by decide) f40_14 (by decide) (by decide) (by decide) ?_
  refine mS_genM (mem := m40) l40 (fun _ _ h => h) (fun m41 e41 l41 k41 => ?_)
  have f41_0 := k41 _ _ f40_0
  have f41_1 := k41 _ _ f40_1
  have f41_14 := k41 _ _ f40_14
  refine mS_steps (pc' := 34) (ls' := [.ref 19, .int (12 : Int32)]) (st' := []) (mem' := m41) 0 rfl ?_
  refine mS_one (pc' := 37) (ls' := [.ref 19, .int (13 : Int32)]) (st' := []) (mem' := m41) rfl (by decide) (by show some (_, [Value.ref 19, Value.int ((12 : Int32) + 1)], _, _) = _; rw [show ((12 : Int32) + 1) = 13 from by decide]) ?_
  refine mS_steps (pc' := 18) (ls' := [.ref 19, .int (13 : Int32)]) (st' := [.int (40 : Int32), .int (13 : Int32)]) (mem' := m41) 3 rfl ?_
  refine mS_one (pc' := 21) (ls' := [.ref 19, .int (13 : Int32)]) (st' := []) (mem' := m41) rfl (by decide) (by show some (bif decide ((40 : Int32) ≤ 13) then _ else _, _, _, _) = _; rw [show decide ((40 : Int32) ≤ 13) = false from by decide]; rfl) ?_
  refine mS_steps (pc' := 22) (ls' := [.ref 19, .int (13 : Int32)]) (st' := [.ref 19]) (mem' := m41) 1 rfl ?_
  refine mS_getg (r := 20) rfl f41_0 (by decide) (by decide) (by subst_vars; rfl) ?_
  refine mS_steps (pc' := 26) (ls' := [.ref 19, .int (13 : Int32)]) (st' := [.int (13 : Int32), .ref 20]) (mem' := m41) 1 rfl ?_
  refine mS_nwL (a := 86) rfl l41 (by decide) (fun m42 e42 l42 n42 k42 => ?_)
  have f42_0 := k42 _ _ f41_0
  have f42_1 := k42 _ _ f41_1
  refine mS_steps (pc' := 30) (ls' := [.ref 19, .int (13 : Int32)]) (st' := [.ref 86, .ref 86, .int (13 : Int32), .ref 20]) (mem' := m42) 1 rfl ?_
  refine mS_call (q := ()) 0 1 [.ref 86] [.ref 86, .int (13 : Int32), .ref 20] rfl rfl rfl ⟨_, _, _, rfl, rfl⟩ (Nat.le_of_ble_eq_true rfl) (Nat.le_of_ble_eq_true rfl) rfl (c_X6_init_snd 86 87 m42 n42 l42 (by decide)) ?_
  refine mS_steps (pc' := 33) (ls' := [.ref 19, .int (13 : Int32)]) (st' := [.ref 86, .int (13 : Int32), .ref 20]) (mem' := c_X6_init 86 87 m42) 0 rfl ?_
  refine mS_genM (mem := m42) (c_X6_init_len l42) (fun _ _ h => c_X6_init_at h) (fun m43 e43 l43 k43 => ?_)
  have f43_0 := k43 _ _ f42_0
  have f43_1 := k43 _ _ f42_1
  have f43_15 := k43 _ _ n42
  refine mS_steps (pc' := 33) (ls' := [.ref 19, .int (13 : Int32)]) (st' := [.ref 86, .int (13 : Int32), .ref 20]) (mem' := m43) 0 rfl ?_
  refine mS_aag (c := 13) rfl f43_1 (by decide) f43_15 (by decide) (by decide) (by decide) ?_
  refine mS_genM (mem := m43) l43 (fun _ _ h => h) (fun m44 e44 l44 k44 => ?_)
  have f44_0 := k44 _ _ f43_0
  have f44_1 := k44 _ _ f43_1
  have f44_15 := k44 _ _ f43_15
  refine mS_steps (pc' := 34) (ls' := [.ref 19, .int (13 : Int32)]) (st' := []) (mem' := m44) 0 rfl ?_
  refine mS_one (pc' := 37) (ls' := [.ref 19, .int (14 : Int32)]) (st' := []) (mem' := m44) rfl (by decide) (by show some (_, [Value.ref 19, Value.int ((13 : Int32) + 1)], _, _) = _; rw [show ((13 : Int32) + 1) = 14 from by decide]) ?_
  refine mS_steps (pc' := 18) (ls' := [.ref 19, .int (14 : Int32)]) (st' := [.int (40 : Int32), .int (14 : Int32)]) (mem' := m44) 3 rfl ?_
  refine mS_one (pc' := 21) (ls' := [.ref 19, .int (14 : Int32)]) (st' := []) (mem' := m44) rfl (by decide) (by show some (bif decide ((40 : Int32) ≤ 14) then _ else _, _, _, _) = _; rw [show decide ((40 : Int32) ≤ 14) = false from by decide]; rfl) ?_
  refine mS_steps (pc' := 22) (ls' := [.ref 19, .int (14 : Int32)]) (st' := [.ref 19]) (mem' := m44) 1 rfl ?_
  refine mS_getg (r := 20) rfl f44_0 (by decide) (by decide) (by subst_vars; rfl) ?_
  refine mS_steps (pc' := 26) (ls' := [.ref 19, .int (14 : Int32)]) (st' := [.int (14 : Int32), .ref 20]) (mem' := m44) 1 rfl ?_
  refine mS_nwL (a := 91) rfl l44 (by decide) (fun m45 e45 l45 n45 k45 => ?_)
  have f45_0 := k45 _ _ f44_0
  have f45_1 := k45 _ _ f44_1
  refine mS_steps (pc' := 30) (ls' := [.ref 19, .int (14 : Int32)]) (st' := [.ref 91, .ref 91, .int (14 : Int32), .ref 20]) (mem' := m45) 1 rfl ?_
  refine mS_call (q := ()) 0 1 [.ref 91] [.ref 91, .int (14 : Int32), .ref 20] rfl rfl rfl ⟨_, _, _, rfl, rfl⟩ (Nat.le_of_ble_eq_true rfl) (Nat.le_of_ble_eq_true rfl) rfl (c_X6_init_snd 91 92 m45 n45 l45 (by decide)) ?_
  refine mS_steps (pc' := 33) (ls' := [.ref 19, .int (14 : Int32)]) (st' := [.ref 91, .int (14 : Int32), .ref 20]) (mem' := c_X6_init 91 92 m45) 0 rfl ?_
  refine mS_genM (mem := m45) (c_X6_init_len l45) (fun _ _ h => c_X6_init_at h) (fun m46 e46 l46 k46 => ?_)
  have f46_0 := k46 _ _ f45_0
  have f46_1 := k46 _ _ f45_1
  have f46_16 := k46 _ _ n45
  refine mS_steps (pc' := 33) (ls' := [.ref 19, .int (14 : Int32)]) (st' := [.ref 91, .int (14 : Int32), .ref 20]) (mem' := m46) 0 rfl ?_
  refine mS_aag (c := 14) rfl f46_1 (by decide) f46_16 (by decide) (by decide) (by decide) ?_
  refine mS_genM (mem := m46) l46 (fun _ _ h => h) (fun m47 e47 l47 k47 => ?_)
  have f47_0 := k47 _ _ f46_0
  have f47_1 := k47 _ _ f46_1
  have f47_16 := k47 _ _ f46_16
  refine mS_steps (pc' := 34) (ls' := [.ref 19, .int (14 : Int32)]) (st' := []) (mem' := m47) 0 rfl ?_
  refine mS_one (pc' := 37) (ls' := [.ref 19, .int (15 : Int32)]) (st' := []) (mem' := m47) rfl (by decide) (by show some (_, [Value.ref 19, Value.int ((14 : Int32) + 1)], _, _) = _; rw [show ((14 : Int32) + 1) = 15 from by decide]) ?_
  refine mS_steps (pc' := 18) (ls' := [.ref 19, .int (15 : Int32)]) (st' := [.int (40 : Int32), .int (15 : Int32)]) (mem' := m47) 3 rfl ?_
  refine mS_one (pc' := 21) (ls' := [.ref 19, .int (15 : Int32)]) (st' := []) (mem' := m47) rfl (by decide) (by show some (bif decide ((40 : Int32) ≤ 15) then _ else _, _, _, _) = _; rw [show decide ((40 : Int32) ≤ 15) = false from by decide]; rfl) ?_
  refine mS_steps (pc' := 22) (ls' := [.ref 19, .int (15 : Int32)]) (st' := [.ref 19]) (mem' := m47) 1 rfl ?_
  refine mS_getg (r := 20) rfl f47_0 (by decide) (by decide) (by subst_vars; rfl) ?_
  refine mS_steps (pc' := 26) (ls' := [.ref 19, .int (15 : Int32)]) (st' := [.int (15 : Int32), .ref 20]) (mem' := m47) 1 rfl ?_
  refine mS_nwL (a := 96) rfl l47 (by decide) (fun m48 e48 l48 n48 k48 => ?_)
  have f48_0 := k48 _ _ f47_0
  have f48_1 := k48 _ _ f47_1
  refine mS_steps (pc' := 30) (ls' := [.ref 19, .int (15 : Int32)]) (st' := [.ref 96, .ref 96, .int (15 : Int32), .ref 20]) (mem' := m48) 1 rfl ?_
  refine mS_call (q := ()) 0 1 [.ref 96] [.ref 96, .int (15 : Int32), .ref 20] rfl rfl rfl ⟨_, _, _, rfl, rfl⟩ (Nat.le_of_ble_eq_true rfl) (Nat.le_of_ble_eq_true rfl) rfl (c_X6_init_snd 96 97 m48 n48 l48 (by decide)) ?_
  refine mS_steps (pc' := 33) (ls' := [.ref 19, .int (15 : Int32)]) (st' := [.ref 96, .int (15 : Int32), .ref 20]) (mem' := c_X6_init 96 97 m48) 0 rfl ?_
  refine mS_genM (mem := m48) (c_X6_init_len l48) (fun _ _ h => c_X6_init_at h) (fun m49 e49 l49 k49 => ?_)
  have f49_0 := k49 _ _ f48_0
  have f49_1 := k49 _ _ f48_1
  have f49_17 := k49 _ _ n48
  refine mS_steps (pc' := 33) (ls' := [.ref 19, .int (15 : Int32)]) (st' := [.ref 96, .int (15 : Int32), .ref 20]) (mem' := m49) 0 rfl ?_
  refine mS_aag (c := 15) rfl f49_1 (by decide) f49_17 (by decide) (by decide) (by decide) ?_
  refine mS_genM (mem := m49) l49 (fun _ _ h => h) (fun m50 e50 l50 k50 => ?_)
  have f50_0 := k50 _ _ f49_0
  have f50_1 := k50 _ _ f49_1
  have f50_17 := k50 _ _ f49_17
  refine mS_steps (pc' := 34) (ls' := [.ref 19, .int (15 : Int32)]) (st' := []) (mem' := m50) 0 rfl ?_
  refine mS_one (pc' := 37) (ls' := [.ref 19, .int (16 : Int32)]) (st' := []) (mem' := m50) rfl (by decide) (by show some (_, [Value.ref 19, Value.int ((15 : Int32) + 1)], _, _) = _; rw [show ((15 : Int32) + 1) = 16 from by decide]) ?_
  refine mS_steps (pc' := 18) (ls' := [.ref 19, .int (16 : Int32)]) (st' := [.int (40 : Int32), .int (16 : Int32)]) (mem' := m50) 3 rfl ?_
  refine mS_one (pc' := 21) (ls' := [.ref 19, .int (16 : Int32)]) (st' := []) (mem' := m50) rfl (by decide) (by show some (bif decide ((40 : Int32) ≤ 16) then _ else _, _, _, _) = _; rw [show decide ((40 : Int32) ≤ 16) = false from by decide]; rfl) ?_
  refine mS_steps (pc' := 22) (ls' := [.ref 19, .int (16 : Int32)]) (st' := [.ref 19]) (mem' := m50) 1 rfl ?_
  refine mS_getg (r := 20) rfl f50_0 (by decide) (by decide) (by subst_vars; rfl) ?_
  refine mS_steps (pc' := 26) (ls' := [.ref 19, .int (16 : Int32)]) (st' := [.int (16 : Int32), .ref 20]) (mem' := m50) 1 rfl ?_
  refine mS_nwL (a := 101) rfl l50 (by decide) (fun m51 e51 l51 n51 k51 => ?_)
  have f51_0 := k51 _ _ f50_0
  have f51_1 := k51 _ _ f50_1
  refine mS_steps (pc' := 30) (ls' := [.ref 19, .int (16 : Int32)]) (st' := [.ref 101, .ref 101, .int (16 : Int32), .ref 20]) (mem' := m51) 1 rfl ?_
  refine mS_call (q := ()) 0 1 [.ref 101] [.ref 101, .int (16 : Int32), .ref 20] rfl rfl rfl ⟨_, _, _, rfl, rfl⟩ (Nat.le_of_ble_eq_true rfl) (Nat.le_of_ble_eq_true rfl) rfl (c_X6_init_snd 101 102 m51 n51 l51 (by decide)) ?_
  refine mS_steps (pc' := 33) (ls' := [.ref 19, .int (16 : Int32)]) (st' := [.ref 101, .int (16 : Int32), .ref 20]) (mem' := c_X6_init 101 102 m51) 0 rfl ?_
  refine mS_genM (mem := m51) (c_X6_init_len l51) (fun _ _ h => c_X6_init_at h) (fun m52 e52 l52 k52 => ?_)
  have f52_0 := k52 _ _ f51_0
  have f52_1 := k52 _ _ f51_1
  have f52_18 := k52 _ _ n51
  refine mS_steps (pc' := 33) (ls' := [.ref 19, .int (16 : Int32)]) (st' := [.ref 101, .int (16 : Int32), .ref 20]) (mem' := m52) 0 rfl ?_
  refine mS_aag (c := 16) rfl f52_1 (by decide) f52_18 (by decide) (by decide) (by decide) ?_
  refine mS_genM (mem := m52) l52 (fun _ _ h => h) (fun m53 e53 l53 k53 => ?_)
  have f53_0 := k53 _ _ f52_0
  have f53_1 := k53 _ _ f52_1
  have f53_18 := k53 _ _ f52_18
  refine mS_steps (pc' := 34) (ls' := [.ref 19, .int (16 : Int32)]) (st' := []) (mem' := m53) 0 rfl ?_
  refine mS_one (pc' := 37) (ls' := [.ref 19, .int (17 : Int32)]) (st' := []) (mem' := m53) rfl (by decide) (by show some (_, [Value.ref 19, Value.int ((16 : Int32) + 1)], _, _) = _; rw [show ((16 : Int32) + 1) = 17 from by decide]) ?_
  refine mS_steps (pc' := 18) (ls' := [.ref 19, .int (17 : Int32)]) (st' := [.int (40 : Int32), .int (17 : Int32)]) (mem' := m53) 3 rfl ?_
  refine mS_one (pc' := 21) (ls' := [.ref 19, .int (17 : Int32)]) (st' := []) (mem' := m53) rfl (by decide) (by show some (bif decide ((40 : Int32) ≤ 17) then _ else _, _, _, _) = _; rw [show decide ((40 : Int32) ≤ 17) = false from by decide]; rfl) ?_
  refine mS_steps (pc' := 22) (ls' := [.ref 19, .int (17 : Int32)]) (st' := [.ref 19]) (mem' := m53) 1 rfl ?_
  refine mS_getg (r := 20) rfl f53_0 (by decide) (by decide) (by subst_vars; rfl) ?_
  refine mS_steps (pc' := 26) (ls' := [.ref 19, .int (17 : Int32)]) (st' := [.int (17 : Int32), .ref 20]) (mem' := m53) 1 rfl ?_
  refine mS_nwL (a := 106) rfl l53 (by decide) (fun m54 e54 l54 n54 k54 => ?_)
  have f54_0 := k54 _ _ f53_0
  have f54_1 := k54 _ _ f53_1
  refine mS_steps (pc' := 30) (ls' := [.ref 19, .int (17 : Int32)]) (st' := [.ref 106, .ref 106, .int (17 : Int32), .ref 20]) (mem' := m54) 1 rfl ?_
  refine mS_call (q := ()) 0 1 [.ref 106] [.ref 106, .int (17 : Int32), .ref 20] rfl rfl rfl ⟨_, _, _, rfl, rfl⟩ (Nat.le_of_ble_eq_true rfl) (Nat.le_of_ble_eq_true rfl) rfl (c_X6_init_snd 106 107 m54 n54 l54 (by decide)) ?_
  refine mS_steps (pc' := 33) (ls' := [.ref 19, .int (17 : Int32)]) (st' := [.ref 106, .int (17 : Int32), .ref 20]) (mem' := c_X6_init 106 107 m54) 0 rfl ?_
  refine mS_genM (mem := m54) (c_X6_init_len l54) (fun _ _ h => c_X6_init_at h) (fun m55 e55 l55 k55 => ?_)
  have f55_0 := k55 _ _ f54_0
  have f55_1 := k55 _ _ f54_1
  have f55_19 := k55 _ _ n54
  refine mS_steps (pc' := 33) (ls' := [.ref 19, .int (17 : Int32)]) (st' := [.ref 106, .int (17 : Int32), .ref 20]) (mem' := m55) 0 rfl ?_
  refine mS_aag (c := 17) rfl f55_1 (by decide) f55_19 (by decide) (by decide) (by decide) ?_
  refine mS_genM (mem := m55) l55 (fun _ _ h => h) (fun m56 e56 l56 k56 => ?_)
  have f56_0 := k56 _ _ f55_0
  have f56_1 := k56 _ _ f55_1
  have f56_19 := k56 _ _ f55_19
  refine mS_steps (pc' := 34) (ls' := [.ref 19, .int (17 : Int32)]) (st' := []) (mem' := m56) 0 rfl ?_
  refine mS_one (pc' := 37) (ls' := [.ref 19, .int (18 : Int32)]) (st' := []) (mem' := m56) rfl (by decide) (by show some (_, [Value.ref 19, Value.int ((17 : Int32) + 1)], _, _) = _; rw [show ((17 : Int32) + 1) = 18 from by decide]) ?_
  refine mS_steps (pc' := 18) (ls' := [.ref 19, .int (18 : Int32)]) (st' := [.int (40 : Int32), .int (18 : Int32)]) (mem' := m56) 3 rfl ?_
  refine mS_one (pc' := 21) (ls' := [.ref 19, .int (18 : Int32)]) (st' := []) (mem' := m56) rfl (by decide) (by show some (bif decide ((40 : Int32) ≤ 18) then _ else _, _, _, _) = _; rw [show decide ((40 : Int32) ≤ 18) = false from by decide]; rfl) ?_
  refine mS_steps (pc' := 22) (ls' := [.ref 19, .int (18 : Int32)]) (st' := [.ref 19]) (mem' := m56) 1 rfl ?_
  refine mS_getg (r := 20) rfl f56_0 (by decide) (by decide) (by subst_vars; rfl) ?_
  refine mS_steps (pc' := 26) (ls' := [.ref 19, .int (18 : Int32)]) (st' := [.int (18 : Int32), .ref 20]) (mem' := m56) 1 rfl ?_
  refine mS_nwL (a := 111) rfl l56 (by decide) (fun m57 e57 l57 n57 k57 => ?_)
  have f57_0 := k57 _ _ f56_0
  have f57_1 := k57 _ _ f56_1
  refine mS_steps (pc' := 30) (ls' := [.ref 19, .int (18 : Int32)]) (st' := [.ref 111, .ref 111, .int (18 : Int32), .ref 20]) (mem' := m57) 1 rfl ?_
  refine mS_call (q := ()) 0 1 [.ref 111] [.ref 111, .int (18 : Int32), .ref 20] rfl rfl rfl ⟨_, _, _, rfl, rfl⟩ (Nat.le_of_ble_eq_true rfl) (Nat.le_of_ble_eq_true rfl) rfl (c_X6_init_snd 111 112 m57 n57 l57 (by decide)) ?_
  refine mS_steps (pc' := 33) (ls' := [.ref 19, .int (18 : Int32)]) (st' := [.ref 111, .int (18 : Int32), .ref 20]) (mem' := c_X6_init 111 112 m57) 0 rfl ?_
  refine mS_genM (mem := m57) (c_X6_init_len l57) (fun _ _ h => c_X6_init_at h) (fun m58 e58 l58 k58 => ?_)
  have f58_0 := k58 _ _ f57_0
  have f58_1 := k58 _ _ f57_1
  have f58_20 := k58 _ _ n57
  refine mS_steps (pc' := 33) (ls' := [.ref 19, .int (18 : Int32)]) (st' := [.ref 111, .int (18 : Int32), .ref 20]) (mem' := m58) 0 rfl ?_
  refine mS_aag (c := 18) rfl f58_1 (by decide) f58_20 (by decide) (by decide) (by decide) ?_
  refine mS_genM (mem := m58) l58 (fun _ _ h => h) (fun m59 e59 l59 k59 => ?_)
  have f59_0 := k59 _ _ f58_0
  have f59_1 := k59 _ _ f58_1
  have f59_20 := k59 _ _ f58_20
  refine mS_steps (pc' := 34) (ls' := [.ref 19, .int (18 : Int32)]) (st' := []) (mem' := m59) 0 rfl ?_
  refine mS_one (pc' := 37) (ls' := [.ref 19, .int (19 : Int32)]) (st' := []) (mem' := m59) rfl (by decide) (by show some (_, [Value.ref 19, Value.int ((18 : Int32) + 1)], _, _) = _; rw [show ((18 : Int32) + 1) = 19 from by decide]) ?_
  refine mS_steps (pc' := 18) (ls' := [.ref 19, .int (19 : Int32)]) (st' := [.int (40 : Int32), .int (19 : Int32)]) (mem' := m59) 3 rfl ?_
  refine mS_one (pc' := 21) (ls' := [.ref 19, .int (19 : Int32)]) (st' := []) (mem' := m59) rfl (by decide) (by show some (bif decide ((40 : Int32) ≤ 19) then _ else _, _, _, _) = _; rw [show decide ((40 : Int32) ≤ 19) = false from by decide]; rfl) ?_
  refine mS_steps (pc' := 22) (ls' := [.ref 19, .int (19 : Int32)]) (st' := [.ref 19]) (mem' := m59) 1 rfl ?_
  refine mS_getg (r := 20) rfl f59_0 (by decide) (by decide) (by subst_vars; rfl) ?_
  refine mS_steps (pc' := 26) (ls' := [.ref 19, .int (19 : Int32)]) (st' := [.int (19 : Int32), .ref 20]) (mem' := m59) 1 rfl ?_
  refine mS_nwL (a := 116) rfl l59 (by decide) (fun m60 e60 l60 n60 k60 => ?_)
  have f60_0 := k60 _ _ f59_0
  have f60_1 := k60 _ _ f59_1
  refine mS_steps (pc' := 30) (ls' := [.ref 19, .int (19 : Int32)]) (st' := [.ref 116, .ref 116, .int (19 : Int32), .ref 20]) (mem' := m60) 1 rfl ?_
  refine mS_call (q := ()) 0 1 [.ref 116] [.ref 116, .int (19 : Int32), .ref 20] rfl rfl rfl ⟨_, _, _, rfl, rfl⟩ (Nat.le_of_ble_eq_true rfl) (Nat.le_of_ble_eq_true rfl) rfl (c_X6_init_snd 116 117 m60 n60 l60 (by decide)) ?_
  refine mS_steps (pc' := 33) (ls' := [.ref 19, .int (19 : Int32)]) (st' := [.ref 116, .int (19 : Int32), .ref 20]) (mem' := c_X6_init 116 117 m60) 0 rfl ?_
  refine mS_genM (mem := m60) (c_X6_init_len l60) (fun _ _ h => c_X6_init_at h) (fun m61 e61 l61 k61 => ?_)
  have f61_0 := k61 _ _ f60_0
  have f61_1 := k61 _ _ f60_1
  have f61_21 := k61 _ _ n60
  refine mS_steps (pc' := 33) (ls' := [.ref 19, .int (19 : Int32)]) (st' := [.ref 116, .int (19 : Int32), .ref 20]) (mem' := m61) 0 rfl ?_
  refine mS_aag (c := 19) rfl f61_1 (by decide) f61_21 (by decide) (by decide) (by decide) ?_
  refine mS_genM (mem := m61) l61 (fun _ _ h => h) (fun m62 e62 l62 k62 => ?_)
  have f62_0 := k62 _ _ f61_0
  have f62_1 := k62 _ _ f61_1
  have f62_21 := k62 _ _ f61_21
  refine mS_steps (pc' := 34) (ls' := [.ref 19, .int (19 : Int32)]) (st' := []) (mem' := m62) 0 rfl ?_
  refine mS_one (pc' := 37) (ls' := [.ref 19, .int (20 : Int32)]) (st' := []) (mem' := m62) rfl (by decide) (by show some (_, [Value.ref 19, Value.int ((19 : Int32) + 1)], _, _) = _; rw [show ((19 : Int32) + 1) = 20 from by decide]) ?_
  refine mS_steps (pc' := 18) (ls' := [.ref 19, .int (20 : Int32)]) (st' := [.int (40 : Int32), .int (20 : Int32)]) (mem' := m62) 3 rfl ?_
  refine mS_one (pc' := 21) (ls' := [.ref 19, .int (20 : Int32)]) (st' := []) (mem' := m62) rfl (by decide) (by show some (bif decide ((40 : Int32) ≤ 20) then _ else _, _, _, _) = _; rw [show decide ((40 : Int32) ≤ 20) = false from by decide]; rfl) ?_
  refine mS_steps (pc' := 22) (ls' := [.ref 19, .int (20 : Int32)]) (st' := [.ref 19]) (mem' := m62) 1 rfl ?_
  refine mS_getg (r := 20) rfl f62_0 (by decide) (by decide) (by subst_vars; rfl) ?_
  refine mS_steps (pc' := 26) (ls' := [.ref 19, .int (20 : Int32)]) (st' := [.int (20 : Int32), .ref 20]) (mem' := m62) 1 rfl ?_
  refine mS_nwL (a := 121) rfl l62 (by decide) (fun m63 e63 l63 n63 k63 => ?_)
  have f63_0 := k63 _ _ f62_0
  have f63_1 := k63 _ _ f62_1
  refine mS_steps (pc' := 30) (ls' := [.ref 19, .int (20 : Int32)]) (st' := [.ref 121, .ref 121, .int (20 : Int32), .ref 20]) (mem' := m63) 1 rfl ?_
  refine mS_call (q := ()) 0 1 [.ref 121] [.ref 121, .int (20 : Int32), .ref 20] rfl rfl rfl ⟨_, _, _, rfl, rfl⟩ (Nat.le_of_ble_eq_true rfl) (Nat.le_of_ble_eq_true rfl) rfl (c_X6_init_snd 121 122 m63 n63 l63 (by decide)) ?_
  refine mS_steps (pc' := 33) (ls' := [.ref 19, .int (20 : Int32)]) (st' := [.ref 121, .int (20 : Int32), .ref 20]) (mem' := c_X6_init 121 122 m63) 0 rfl ?_
  refine mS_genM (mem := m63) (c_X6_init_len l63) (fun _ _ h => c_X6_init_at h) (fun m64 e64 l64 k64 => ?_)
  have f64_0 := k64 _ _ f63_0
  have f64_1 := k64 _ _ f63_1
  have f64_22 := k64 _ _ n63
  refine mS_steps (pc' := 33) (ls' := [.ref 19, .int (20 : Int32)]) (st' := [.ref 121, .int (20 : Int32), .ref 20]) (mem' := m64) 0 rfl ?_
  refine mS_aag (c := 20) rfl f64_1 (by decide) f64_22 (by decide) (by decide) (by decide) ?_
  refine mS_genM (mem := m64) l64 (fun _ _ h => h) (fun m65 e65 l65 k65 => ?_)
  have f65_0 := k65 _ _ f64_0
  have f65_1 := k65 _ _ f64_1
  have f65_22 := k65 _ _ f64_22
  refine mS_steps (pc' := 34) (ls' := [.ref 19, .int (20 : Int32)]) (st' := []) (mem' := m65) 0 rfl ?_
  refine mS_one (pc' := 37) (ls' := [.ref 19, .int (21 : Int32)]) (st' := []) (mem' := m65) rfl (by decide) (by show some (_, [Value.ref 19, Value.int ((20 : Int32) + 1)], _, _) = _; rw [show ((20 : Int32) + 1) = 21 from by decide]) ?_
  refine mS_steps (pc' := 18) (ls' := [.ref 19, .int (21 : Int32)]) (st' := [.int (40 : Int32), .int (21 : Int32)]) (mem' := m65) 3 rfl ?_
  refine mS_one (pc' := 21) (ls' := [.ref 19, .int (21 : Int32)]) (st' := []) (mem' := m65) rfl (by decide) (by show some (bif decide ((40 : Int32) ≤ 21) then _ else _, _, _, _) = _; rw [show decide ((40 : Int32) ≤ 21) = false from by decide]; rfl) ?_
  refine mS_steps (pc' := 22) (ls' := [.ref 19, .int (21 : Int32)]) (st' := [.ref 19]) (mem' := m65) 1 rfl ?_
  refine mS_getg (r := 20) rfl f65_0 (by decide) (by decide) (by subst_vars; rfl) ?_
  refine mS_steps (pc' := 26) (ls' := [.ref 19, .int (21 : Int32)]) (st' := [.int (21 : Int32), .ref 20]) (mem' := m65) 1 rfl ?_
  refine mS_nwL (a := 126) rfl l65 (by decide) (fun m66 e66 l66 n66 k66 => ?_)
  have f66_0 := k66 _ _ f65_0
  have f66_1 := k66 _ _ f65_1
  refine mS_steps (pc' := 30) (ls' := [.ref 19, .int (21 : Int32)]) (st' := [.ref 126, .ref 126, .int (21 : Int32), .ref 20]) (mem' := m66) 1 rfl ?_
  refine mS_call (q := ()) 0 1 [.ref 126] [.ref 126, .int (21 : Int32), .ref 20] rfl rfl rfl ⟨_, _, _, rfl, rfl⟩ (Nat.le_of_ble_eq_true rfl) (Nat.le_of_ble_eq_true rfl) rfl (c_X6_init_snd 126 127 m66 n66 l66 (by decide)) ?_
  refine mS_steps (pc' := 33) (ls' := [.ref 19, .int (21 : Int32)]) (st' := [.ref 126, .int (21 : Int32), .ref 20]) (mem' := c_X6_init 126 127 m66) 0 rfl ?_
  refine mS_genM (mem := m66) (c_X6_init_len l66) (fun _ _ h => c_X6_init_at h) (fun m67 e67 l67 k67 => ?_)
  have f67_0 := k67 _ _ f66_0
  have f67_1 := k67 _ _ f66_1
  have f67_23 := k67 _ _ n66
  refine mS_steps (pc' := 33) (ls' := [.ref 19, .int (21 : Int32)]) (st' := [.ref 126, .int (21 : Int32), .ref 20]) (mem' := m67) 0 rfl ?_
  refine mS_aag (c := 21) rfl f67_1 (by decide) f67_23 (by decide) (by decide) (by decide) ?_
  refine mS_genM (mem := m67) l67 (fun _ _ h => h) (fun m68 e68 l68 k68 => ?_)
  have f68_0 := k68 _ _ f67_0
  have f68_1 := k68 _ _ f67_1
  have f68_23 := k68 _ _ f67_23
  refine mS_steps (pc' := 34) (ls' := [.ref 19, .int (21 : Int32)]) (st' := []) (mem' := m68) 0 rfl ?_
  refine mS_one (pc' := 37) (ls' := [.ref 19, .int (22 : Int32)]) (st' := []) (mem' := m68) rfl (by decide) (by show some (_, [Value.ref 19, Value.int ((21 : Int32) + 1)], _, _) = _; rw [show ((21 : Int32) + 1) = 22 from by decide]) ?_
  refine mS_steps (pc' := 18) (ls' := [.ref 19, .int (22 : Int32)]) (st' := [.int (40 : Int32), .int (22 : Int32)]) (mem' := m68) 3 rfl ?_
  refine mS_one (pc' := 21) (ls' := [.ref 19, .int (22 : Int32)]) (st' := []) (mem' := m68) rfl (by decide) (by show some (bif decide ((40 : Int32) ≤ 22) then _ else _, _, _, _) = _; rw [show decide ((40 : Int32) ≤ 22) = false from by decide]; rfl) ?_
  refine mS_steps (pc' := 22) (ls' := [.ref 19, .int (22 : Int32)]) (st' := [.ref 19]) (mem' := m68) 1 rfl ?_
  refine mS_getg (r := 20) rfl f68_0 (by decide) (by decide) (by subst_vars; rfl) ?_
  refine mS_steps (pc' := 26) (ls' := [.ref 19, .int (22 : Int32)]) (st' := [.int (22 : Int32), .ref 20]) (mem' := m68) 1 rfl ?_
  refine mS_nwL (a := 131) rfl l68 (by decide) (fun m69 e69 l69 n69 k69 => ?_)
  have f69_0 := k69 _ _ f68_0
  have f69_1 := k69 _ _ f68_1
  refine mS_steps (pc' := 30) (ls' := [.ref 19, .int (22 : Int32)]) (st' := [.ref 131, .ref 131, .int (22 : Int32), .ref 20]) (mem' := m69) 1 rfl ?_
  refine mS_call (q := ()) 0 1 [.ref 131] [.ref 131, .int (22 : Int32), .ref 20] rfl rfl rfl ⟨_, _, _, rfl, rfl⟩ (Nat.le_of_ble_eq_true rfl) (Nat.le_of_ble_eq_true rfl) rfl (c_X6_init_snd 131 132 m69 n69 l69 (by decide)) ?_
  refine mS_steps (pc' := 33) (ls' := [.ref 19, .int (22 : Int32)]) (st' := [.ref 131, .int (22 : Int32), .ref 20]) (mem' := c_X6_init 131 132 m69) 0 rfl ?_
  refine mS_genM (mem := m69) (c_X6_init_len l69) (fun _ _ h => c_X6_init_at h) (fun m70 e70 l70 k70 => ?_)
  have f70_0 := k70 _ _ f69_0
  have f70_1 := k70 _ _ f69_1
  have f70_24 := k70 _ _ n69
  refine mS_steps (pc' := 33) (ls' := [.ref 19, .int (22 : Int32)]) (st' := [.ref 131, .int (22 : Int32), .ref 20]) (mem' := m70) 0 rfl ?_
  refine mS_aag (c := 22) rfl f70_1 (by decide) f70_24 (by decide) (by decide) (by decide) ?_
  refine mS_genM (mem := m70) l70 (fun _ _ h => h) (fun m71 e71 l71 k71 => ?_)
  have f71_0 := k71 _ _ f70_0
  have f71_1 := k71 _ _ f70_1
  have f71_24 := k71 _ _ f70_24
  refine mS_steps (pc' := 34) (ls' := [.ref 19, .int (22 : Int32)]) (st' := []) (mem' := m71) 0 rfl ?_
  refine mS_one (pc' := 37) (ls' := [.ref 19, .int (23 : Int32)]) (st' := []) (mem' := m71) rfl (by decide) (by show some (_, [Value.ref 19, Value.int ((22 : Int32) + 1)], _, _) = _; rw [show ((22 : Int32) + 1) = 23 from by decide]) ?_
  refine mS_steps (pc' := 18) (ls' := [.ref 19, .int (23 : Int32)]) (st' := [.int (40 : Int32), .int (23 : Int32)]) (mem' := m71) 3 rfl ?_
  refine mS_one (pc' := 21) (ls' := [.ref 19, .int (23 : Int32)]) (st' := []) (mem' := m71) rfl (by decide) (by show some (bif decide ((40 : Int32) ≤ 23) then _ else _, _, _, _) = _; rw [show decide ((40 : Int32) ≤ 23) = false from by decide]; rfl) ?_
  refine mS_steps (pc' := 22) (ls' := [.ref 19, .int (23 : Int32)]) (st' := [.ref 19]) (mem' := m71) 1 rfl ?_
  refine mS_getg (r := 20) rfl f71_0 (by decide) (by decide) (by subst_vars; rfl) ?_
  refine mS_steps (pc' := 26) (ls' := [.ref 19, .int (23 : Int32)]) (st' := [.int (23 : Int32), .ref 20]) (mem' := m71) 1 rfl ?_
  refine mS_nwL (a := 136) rfl l71 (by decide) (fun m72 e72 l72 n72 k72 => ?_)
  have f72_0 := k72 _ _ f71_0
  have f72_1 := k72 _ _ f71_1
  refine mS_steps (pc' := 30) (ls' := [.ref 19, .int (23 : Int32)]) (st' := [.ref 136, .ref 136, .int (23 : Int32), .ref 20]) (mem' := m72) 1 rfl ?_
  refine mS_call (q := ()) 0 1 [.ref 136] [.ref 136, .int (23 : Int32), .ref 20] rfl rfl rfl ⟨_, _, _, rfl, rfl⟩ (Nat.le_of_ble_eq_true rfl) (Nat.le_of_ble_eq_true rfl) rfl (c_X6_init_snd 136 137 m72 n72 l72 (by decide)) ?_
  refine mS_steps (pc' := 33) (ls' := [.ref 19, .int (23 : Int32)]) (st' := [.ref 136, .int (23 : Int32), .ref 20]) (mem' := c_X6_init 136 137 m72) 0 rfl ?_
  refine mS_genM (mem := m72) (c_X6_init_len l72) (fun _ _ h => c_X6_init_at h) (fun m73 e73 l73 k73 => ?_)
  have f73_0 := k73 _ _ f72_0
  have f73_1 := k73 _ _ f72_1
  have f73_25 := k73 _ _ n72
  refine mS_steps (pc' := 33) (ls' := [.ref 19, .int (23 : Int32)]) (st' := [.ref 136, .int (23 : Int32), .ref 20]) (mem' := m73) 0 rfl ?_
  refine mS_aag (c := 23) rfl f73_1 (by decide) f73_25 (by decide) (by decide) (by decide) ?_
  refine mS_genM (mem := m73) l73 (fun _ _ h => h) (fun m74 e74 l74 k74 => ?_)
  have f74_0 := k74 _ _ f73_0
  have f74_1 := k74 _ _ f73_1
  have f74_25 := k74 _ _ f73_25
  refine mS_steps (pc' := 34) (ls' := [.ref 19, .int (23 : Int32)]) (st' := []) (mem' := m74) 0 rfl ?_
  refine mS_one (pc' := 37) (ls' := [.ref 19, .int (24 : Int32)]) (st' := []) (mem' := m74) rfl (by decide) (by show some (_, [Value.ref 19, Value.int ((23 : Int32) + 1)], _, _) = _; rw [show ((23 : Int32) + 1) = 24 from by decide]) ?_
  refine mS_steps (pc' := 18) (ls' := [.ref 19, .int (24 : Int32)]) (st' := [.int (40 : Int32), .int (24 : Int32)]) (mem' := m74) 3 rfl ?_
  refine mS_one (pc' := 21) (ls' := [.ref 19, .int (24 : Int32)]) (st' := []) (mem' := m74) rfl (by decide) (by show some (bif decide ((40 : Int32) ≤ 24) then _ else _, _, _, _) = _; rw [show decide ((40 : Int32) ≤ 24) = false from by decide]; rfl) ?_
  refine mS_steps (pc' := 22) (ls' := [.ref 19, .int (24 : Int32)]) (st' := [.ref 19]) (mem' := m74) 1 rfl ?_
  refine mS_getg (r := 20) rfl f74_0 (by decide) (by decide) (by subst_vars; rfl) ?_
  refine mS_steps (pc' := 26) (ls' := [.ref 19, .int (24 : Int32)]) (st' := [.int (24 : Int32), .ref 20]) (mem' := m74) 1 rfl ?_
  refine mS_nwL (a := 141) rfl l74 (by decide) (fun m75 e75 l75 n75 k75 => ?_)
  have f75_0 := k75 _ _ f74_0
  have f75_1 := k75 _ _ f74_1
  refine mS_steps (pc' := 30) (ls' := [.ref 19, .int (24 : Int32)]) (st' := [.ref 141, .ref 141, .int (24 : Int32), .ref 20]) (mem' := m75) 1 rfl ?_
  refine mS_call (q := ()) 0 1 [.ref 141] [.ref 141, .int (24 : Int32), .ref 20] rfl rfl rfl ⟨_, _, _, rfl, rfl⟩ (Nat.le_of_ble_eq_true rfl) (Nat.le_of_ble_eq_true rfl) rfl (c_X6_init_snd 141 142 m75 n75 l75 (by decide)) ?_
  refine mS_steps (pc' := 33) (ls' := [.ref 19, .int (24 : Int32)]) (st' := [.ref 141, .int (24 : Int32), .ref 20]) (mem' := c_X6_init 141 142 m75) 0 rfl ?_
  refine mS_genM (mem := m75) (c_X6_init_len l75) (fun _ _ h => c_X6_init_at h) (fun m76 e76 l76 k76 => ?_)
  have f76_0 := k76 _ _ f75_0
  have f76_1 := k76 _ _ f75_1
  have f76_26 := k76 _ _ n75
  refine mS_steps (pc' := 33) (ls' := [.ref 19, .int (24 : Int32)]) (st' := [.ref 141, .int (24 : Int32), .ref 20]) (mem' := m76) 0 rfl ?_
  refine mS_aag (c := 24) rfl f76_1 (by decide) f76_26 (by decide) (by decide) (by decide) ?_
  refine mS_genM (mem := m76) l76 (fun _ _ h => h) (fun m77 e77 l77 k77 => ?_)
  have f77_0 := k77 _ _ f76_0
  have f77_1 := k77 _ _ f76_1
  have f77_26 := k77 _ _ f76_26
  refine mS_steps (pc' := 34) (ls' := [.ref 19, .int (24 : Int32)]) (st' := []) (mem' := m77) 0 rfl ?_
  refine mS_one (pc' := 37) (ls' := [.ref 19, .int (25 : Int32)]) (st' := []) (mem' := m77) rfl (by decide) (by show some (_, [Value.ref 19, Value.int ((24 : Int32) + 1)], _, _) = _; rw [show ((24 : Int32) + 1) = 25 from by decide]) ?_
  refine mS_steps (pc' := 18) (ls' := [.ref 19, .int (25 : Int32)]) (st' := [.int (40 : Int32), .int (25 : Int32)]) (mem' := m77) 3 rfl ?_
  refine mS_one (pc' := 21) (ls' := [.ref 19, .int (25 : Int32)]) (st' := []) (mem' := m77) rfl (by decide) (by show some (bif decide ((40 : Int32) ≤ 25) then _ else _, _, _, _) = _; rw [show decide ((40 : Int32) ≤ 25) = false from by decide]; rfl) ?_
  refine mS_steps (pc' := 22) (ls' := [.ref 19, .int (25 : Int32)]) (st' := [.ref 19]) (mem' := m77) 1 rfl ?_
  refine mS_getg (r := 20) rfl f77_0 (by decide) (by decide) (by subst_vars; rfl) ?_
  refine mS_steps (pc' := 26) (ls' := [.ref 19, .int (25 : Int32)]) (st' := [.int (25 : Int32), .ref 20]) (mem' := m77) 1 rfl ?_
  refine mS_nwL (a := 146) rfl l77 (by decide) (fun m78 e78 l78 n78 k78 => ?_)
  have f78_0 := k78 _ _ f77_0
  have f78_1 := k78 _ _ f77_1
  refine mS_steps (pc' := 30) (ls' := [.ref 19, .int (25 : Int32)]) (st' := [.ref 146, .ref 146, .int (25 : Int32), .ref 20]) (mem' := m78) 1 rfl ?_
  refine mS_call (q := ()) 0 1 [.ref 146] [.ref 146, .int (25 : Int32), .ref 20] rfl rfl rfl ⟨_, _, _, rfl, rfl⟩ (Nat.le_of_ble_eq_true rfl) (Nat.le_of_ble_eq_true rfl) rfl (c_X6_init_snd 146 147 m78 n78 l78 (by decide)) ?_
  refine mS_steps (pc' := 33) (ls' := [.ref 19, .int (25 : Int32)]) (st' := [.ref 146, .int (25 : Int32), .ref 20]) (mem' := c_X6_init 146 147 m78) 0 rfl ?_
  refine mS_genM (mem := m78) (c_X6_init_len l78) (fun _ _ h => c_X6_init_at h) (fun m79 e79 l79 k79 => ?_)
  have f79_0 := k79 _ _ f78_0
  have f79_1 := k79 _ _ f78_1
  have f79_27 := k79 _ _ n78
  refine mS_steps (pc' := 33) (ls' := [.ref 19, .int (25 : Int32)]) (st' := [.ref 146, .int (25 : Int32), .ref 20]) (mem' := m79) 0 rfl ?_
  refine mS_aag (c := 25) rfl f79_1 (by decide) f79_27 (by decide) (by decide) (by decide) ?_
  refine mS_genM (mem := m79) l79 (fun _ _ h => h) (fun m80 e80 l80 k80 => ?_)
  have f80_0 := k80 _ _ f79_0
  have f80_1 := k80 _ _ f79_1
  have f80_27 := k80 _ _ f79_27
  refine mS_steps (pc' := 34) (ls' := [.ref 19, .int (25 : Int32)]) (st' := []) (mem' := m80) 0 rfl ?_
  refine mS_one (pc' := 37) (ls' := [.ref 19, .int (26 : Int32)]) (st' := []) (mem' := m80) rfl (by decide) (by show some (_, [Value.ref 19, Value.int ((25 : Int32) + 1)], _, _) = _; rw [show ((25 : Int32) + 1) = 26 from by decide]) ?_
  refine mS_steps (pc' := 18) (ls' := [.ref 19, .int (26 : Int32)]) (st' := [.int (40 : Int32), .int (26 : Int32)]) (mem' := m80) 3 rfl ?_
  refine mS_one (pc' := 21) (ls' := [.ref 19, .int (26 : Int32)]) (st' := []) (mem' := m80) rfl (by decide) (by show some (bif decide ((40 : Int32) ≤ 26) then _ else _, _, _, _) = _; rw [show decide ((40 : Int32) ≤ 26) = false from by decide]; rfl) ?_
  refine mS_steps (pc' := 22) (ls' := [.ref 19, .int (26 : Int32)]) (st' := [.ref 19]) (mem' := m80) 1 rfl ?_
  refine mS_getg (r := 20) rfl f80_0 (by decide) (by decide) (by subst_vars; rfl) ?_
  refine mS_steps (pc' := 26) (ls' := [.ref 19, .int (26 : Int32)]) (st' := [.int (26 : Int32), .ref 20]) (mem' := m80) 1 rfl ?_
  refine mS_nwL (a := 151) rfl l80 (by decide) (fun m81 e81 l81 n81 k81 => ?_)
  have f81_0 := k81 _ _ f80_0
  have f81_1 := k81 _ _ f80_1
  refine mS_steps (pc' := 30) (ls' := [.ref 19, .int (26 : Int32)]) (st' := [.ref 151, .ref 151, .int (26 : Int32), .ref 20]) (mem' := m81) 1 rfl ?_
  refine mS_call (q := ()) 0 1 [.ref 151] [.ref 151, .int (26 : Int32), .ref 20] rfl rfl rfl ⟨_, _, _, rfl, rfl⟩ (Nat.le_of_ble_eq_true rfl) (Nat.le_of_ble_eq_true rfl) rfl (c_X6_init_snd 151 152 m81 n81 l81 (by decide)) ?_
  refine mS_steps (pc' := 33) (ls' := [.ref 19, .int (26 : Int32)]) (st' := [.ref 151, .int (26 : Int32), .ref 20]) (mem' := c_X6_init 151 152 m81) 0 rfl ?_
  refine mS_genM (mem := m81) (c_X6_init_len l81) (fun _ _ h => c_X6_init_at h) (fun m82 e82 l82 k82 => ?_)
  have f82_0 := k82 _ _ f81_0
  have f82_1 := k82 _ _ f81_1
  have f82_28 := k82 _ _ n81
  refine mS_steps (pc' := 33) (ls' := [.ref 19, .int (26 : Int32)]) (st' := [.ref 151, .int (26 : Int32), .ref 20]) (mem' := m82) 0 rfl ?_
  refine mS_aag (c := 26) rfl f82_1 (by decide) f82_28 (by decide) (by decide) (by decide) ?_
  refine mS_genM (mem := m82) l82 (fun _ _ h => h) (fun m83 e83 l83 k83 => ?_)
  have f83_0 := k83 _ _ f82_0
  have f83_1 := k83 _ _ f82_1
  have f83_28 := k83 _ _ f82_28
  refine mS_steps (pc' := 34) (ls' := [.ref 19, .int (26 : Int32)]) (st' := []) (mem' := m83) 0 rfl ?_
  refine mS_one (pc' := 37) (ls' := [.ref 19, .int (27 : Int32)]) (st' := []) (mem' := m83) rfl (by decide) (by show some (_, [Value.ref 19, Value.int ((26 : Int32) + 1)], _, _) = _; rw [show ((26 : Int32) + 1) = 27 from by decide]) ?_
  refine mS_steps (pc' := 18) (ls' := [.ref 19, .int (27 : Int32)]) (st' := [.int (40 : Int32), .int (27 : Int32)]) (mem' := m83) 3 rfl ?_
  refine mS_one (pc' := 21) (ls' := [.ref 19, .int (27 : Int32)]) (st' := []) (mem' := m83) rfl (by decide) (by show some (bif decide ((40 : Int32) ≤ 27) then _ else _, _, _, _) = _; rw [show decide ((40 : Int32) ≤ 27) = false from by decide]; rfl) ?_
  refine mS_steps (pc' := 22) (ls' := [.ref 19, .int (27 : Int32)]) (st' := [.ref 19]) (mem' := m83) 1 rfl ?_
  refine mS_getg (r := 20) rfl f83_0 (by decide) (by decide) (by subst_vars; rfl) ?_
  refine mS_steps (pc' := 26) (ls' := [.ref 19, .int (27 : Int32)]) (st' := [.int (27 : Int32), .ref 20]) (mem' := m83) 1 rfl ?_
  refine mS_nwL (a := 156) rfl l83 (by decide) (fun m84 e84 l84 n84 k84 => ?_)
  have f84_0 := k84 _ _ f83_0
  have f84_1 := k84 _ _ f83_1
  refine mS_steps (pc' := 30) (ls' := [.ref 19, .int (27 : Int32)]) (st' := [.ref 156, .ref 156, .int (27 : Int32), .ref 20]) (mem' := m84) 1 rfl ?_
  refine mS_call (q := ()) 0 1 [.ref 156] [.ref 156, .int (27 : Int32), .ref 20] rfl rfl rfl ⟨_, _, _, rfl, rfl⟩ (Nat.le_of_ble_eq_true rfl) (Nat.le_of_ble_eq_true rfl) rfl (c_X6_init_snd 156 157 m84 n84 l84 (by decide)) ?_
  refine mS_steps (pc' := 33) (ls' := [.ref 19, .int (27 : Int32)]) (st' := [.ref 156, .int (27 : Int32), .ref 20]) (mem' := c_X6_init 156 157 m84) 0 rfl ?_
  refine mS_genM (mem := m84) (c_X6_init_len l84) (fun _ _ h => c_X6_init_at h) (fun m85 e85 l85 k85 => ?_)
  have f85_0 := k85 _ _ f84_0
  have f85_1 := k85 _ _ f84_1
  have f85_29 := k85 _ _ n84
  refine mS_steps (pc' := 33) (ls' := [.ref 19, .int (27 : Int32)]) (st' := [.ref 156, .int (27 : Int32), .ref 20]) (mem' := m85) 0 rfl ?_
  refine mS_aag (c := 27) rfl f85_1 (by decide) f85_29 (by decide) (by decide) (by decide) ?_
  refine mS_genM (mem := m85) l85 (fun _ _ h => h) (fun m86 e86 l86 k86 => ?_)
  have f86_0 := k86 _ _ f85_0
  have f86_1 := k86 _ _ f85_1
  have f86_29 := k86 _ _ f85_29
  refine mS_steps (pc' := 34) (ls' := [.ref 19, .int (27 : Int32)]) (st' := []) (mem' := m86) 0 rfl ?_
  refine mS_one (pc' := 37) (ls' := [.ref 19, .int (28 : Int32)]) (st' := []) (mem' := m86) rfl (by decide) (by show some (_, [Value.ref 19, Value.int ((27 : Int32) + 1)], _, _) = _; rw [show ((27 : Int32) + 1) = 28 from by decide]) ?_
  refine mS_steps (pc' := 18) (ls' := [.ref 19, .int (28 : Int32)]) (st' := [.int (40 : Int32), .int (28 : Int32)]) (mem' := m86) 3 rfl ?_
  refine mS_one (pc' := 21) (ls' := [.ref 19, .int (28 : Int32)]) (st' := []) (mem' := m86) rfl (by decide) (by show some (bif decide ((40 : Int32) ≤ 28) then _ else _, _, _, _) = _; rw [show decide ((40 : Int32) ≤ 28) = false from by decide]; rfl) ?_
  refine mS_steps (pc' := 22) (ls' := [.ref 19, .int (28 : Int32)]) (st' := [.ref 19]) (mem' := m86) 1 rfl ?_
  refine mS_getg (r := 20) rfl f86_0 (by decide) (by decide) (by subst_vars; rfl) ?_
  refine mS_steps (pc' := 26) (ls' := [.ref 19, .int (28 : Int32)]) (st' := [.int (28 : Int32), .ref 20]) (mem' := m86) 1 rfl ?_
  refine mS_nwL (a := 161) rfl l86 (by decide) (fun m87 e87 l87 n87 k87 => ?_)
  have f87_0 := k87 _ _ f86_0
  have f87_1 := k87 _ _ f86_1
  refine mS_steps (pc' := 30) (ls' := [.ref 19, .int (28 : Int32)]) (st' := [.ref 161, .ref 161, .int (28 : Int32), .ref 20]) (mem' := m87) 1 rfl ?_
  refine mS_call (q := ()) 0 1 [.ref 161] [.ref 161, .int (28 : Int32), .ref 20] rfl rfl rfl ⟨_, _, _, rfl, rfl⟩ (Nat.le_of_ble_eq_true rfl) (Nat.le_of_ble_eq_true rfl) rfl (c_X6_init_snd 161 162 m87 n87 l87 (by decide)) ?_
  refine mS_steps (pc' := 33) (ls' := [.ref 19, .int (28 : Int32)]) (st' := [.ref 161, .int (28 : Int32), .ref 20]) (mem' := c_X6_init 161 162 m87) 0 rfl ?_
  refine mS_genM (mem := m87) (c_X6_init_len l87) (fun _ _ h => c_X6_init_at h) (fun m88 e88 l88 k88 => ?_)
  have f88_0 := k88 _ _ f87_0
  have f88_1 := k88 _ _ f87_1
  have f88_30 := k88 _ _ n87
  refine mS_steps (pc' := 33) (ls' := [.ref 19, .int (28 : Int32)]) (st' := [.ref 161, .int (28 : Int32), .ref 20]) (mem' := m88) 0 rfl ?_
  refine mS_aag (c := 28) rfl f88_1 (by decide) f88_30 (by decide) (by decide) (by decide) ?_
  refine mS_genM (mem := m88) l88 (fun _ _ h => h) (fun m89 e89 l89 k89 => ?_)
  have f89_0 := k89 _ _ f88_0
  have f89_1 := k89 _ _ f88_1
  have f89_30 := k89 _ _ f88_30
  refine mS_steps (pc' := 34) (ls' := [.ref 19, .int (28 : Int32)]) (st' := []) (mem' := m89) 0 rfl ?_
  refine mS_one (pc' := 37) (ls' := [.ref 19, .int (29 : Int32)]) (st' := []) (mem' := m89) rfl (by decide) (by show some (_, [Value.ref 19, Value.int ((28 : Int32) + 1)], _, _) = _; rw [show ((28 : Int32) + 1) = 29 from by decide]) ?_
  refine mS_steps (pc' := 18) (ls' := [.ref 19, .int (29 : Int32)]) (st' := [.int (40 : Int32), .int (29 : Int32)]) (mem' := m89) 3 rfl ?_
  refine mS_one (pc' := 21) (ls' := [.ref 19, .int (29 : Int32)]) (st' := []) (mem' := m89) rfl (by decide) (by show some (bif decide ((40 : Int32) ≤ 29) then _ else _, _, _, _) = _; rw [show decide ((40 : Int32) ≤ 29) = false from by decide]; rfl) ?_
  refine mS_steps (pc' := 22) (ls' := [.ref 19, .int (29 : Int32)]) (st' := [.ref 19]) (mem' := m89) 1 rfl ?_
  refine mS_getg (r := 20) rfl f89_0 (by decide) (by decide) (by subst_vars; rfl) ?_
  refine mS_steps (pc' := 26) (ls' := [.ref 19, .int (29 : Int32)]) (st' := [.int (29 : Int32), .ref 20]) (mem' := m89) 1 rfl ?_
  refine mS_nwL (a := 166) rfl l89 (by decide) (fun m90 e90 l90 n90 k90 => ?_)
  have f90_0 := k90 _ _ f89_0
  have f90_1 := k90 _ _ f89_1
  refine mS_steps (pc' := 30) (ls' := [.ref 19, .int (29 : Int32)]) (st' := [.ref 166, .ref 166, .int (29 : Int32), .ref 20]) (mem' := m90) 1 rfl ?_
  refine mS_call (q := ()) 0 1 [.ref 166] [.ref 166, .int (29 : Int32), .ref 20] rfl rfl rfl ⟨_, _, _, rfl, rfl⟩ (Nat.le_of_ble_eq_true rfl) (Nat.le_of_ble_eq_true rfl) rfl (c_X6_init_snd 166 167 m90 n90 l90 (by decide)) ?_
  refine mS_steps (pc' := 33) (ls' := [.ref 19, .int (29 : Int32)]) (st' := [.ref 166, .int (29 : Int32), .ref 20]) (mem' := c_X6_init 166 167 m90) 0 rfl ?_
  refine mS_genM (mem := m90) (c_X6_init_len l90) (fun _ _ h => c_X6_init_at h) (fun m91 e91 l91 k91 => ?_)
  have f91_0 := k91 _ _ f90_0
  have f91_1 := k91 _ _ f90_1
  have f91_31 := k91 _ _ n90
  refine mS_steps (pc' := 33) (ls' := [.ref 19, .int (29 : Int32)]) (st' := [.ref 166, .int (29 : Int32), .ref 20]) (mem' := m91) 0 rfl ?_
  refine mS_aag (c := 29) rfl f91_1 (by decide) f91_31 (by decide) (by decide) (by decide) ?_
  refine mS_genM (mem := m91) l91 (fun _ _ h => h) (fun m92 e92 l92 k92 => ?_)
  have f92_0 := k92 _ _ f91_0
  have f92_1 := k92 _ _ f91_1
  have f92_31 := k92 _ _ f91_31
  refine mS_steps (pc' := 34) (ls' := [.ref 19, .int (29 : Int32)]) (st' := []) (mem' := m92) 0 rfl ?_
  refine mS_one (pc' := 37) (ls' := [.ref 19, .int (30 : Int32)]) (st' := []) (mem' := m92) rfl (by decide) (by show some (_, [Value.ref 19, Value.int ((29 : Int32) + 1)], _, _) = _; rw [show ((29 : Int32) + 1) = 30 from by decide]) ?_
  refine mS_steps (pc' := 18) (ls' := [.ref 19, .int (30 : Int32)]) (st' := [.int (40 : Int32), .int (30 : Int32)]) (mem' := m92) 3 rfl ?_
  refine mS_one (pc' := 21) (ls' := [.ref 19, .int (30 : Int32)]) (st' := []) (mem' := m92) rfl (by decide) (by show some (bif decide ((40 : Int32) ≤ 30) then _ else _, _, _, _) = _; rw [show decide ((40 : Int32) ≤ 30) = false from by decide]; rfl) ?_
  refine mS_steps (pc' := 22) (ls' := [.ref 19, .int (30 : Int32)]) (st' := [.ref 19]) (mem' := m92) 1 rfl ?_
  refine mS_getg (r := 20) rfl f92_0 (by decide) (by decide) (by subst_vars; rfl) ?_
  refine mS_steps (pc' := 26) (ls' := [.ref 19, .int (30 : Int32)]) (st' := [.int (30 : Int32), .ref 20]) (mem' := m92) 1 rfl ?_
  refine mS_nwL (a := 171) rfl l92 (by decide) (fun m93 e93 l93 n93 k93 => ?_)
  have f93_0 := k93 _ _ f92_0
  have f93_1 := k93 _ _ f92_1
  refine mS_steps (pc' := 30) (ls' := [.ref 19, .int (30 : Int32)]) (st' := [.ref 171, .ref 171, .int (30 : Int32), .ref 20]) (mem' := m93) 1 rfl ?_
  refine mS_call (q := ()) 0 1 [.ref 171] [.ref 171, .int (30 : Int32), .ref 20] rfl rfl rfl ⟨_, _, _, rfl, rfl⟩ (Nat.le_of_ble_eq_true rfl) (Nat.le_of_ble_eq_true rfl) rfl (c_X6_init_snd 171 172 m93 n93 l93 (by decide)) ?_
  refine mS_steps (pc' := 33) (ls' := [.ref 19, .int (30 : Int32)]) (st' := [.ref 171, .int (30 : Int32), .ref 20]) (mem' := c_X6_init 171 172 m93) 0 rfl ?_
  refine mS_genM (mem := m93) (c_X6_init_len l93) (fun _ _ h => c_X6_init_at h) (fun m94 e94 l94 k94 => ?_)
  have f94_0 := k94 _ _ f93_0
  have f94_1 := k94 _ _ f93_1
  have f94_32 := k94 _ _ n93
  refine mS_steps (pc' := 33) (ls' := [.ref 19, .int (30 : Int32)]) (st' := [.ref 171, .int (30 : Int32), .ref 20]) (mem' := m94) 0 rfl ?_
  refine mS_aag (c := 30) rfl f94_1 (by decide) f94_32 (by decide) (by decide) (by decide) ?_
  refine mS_genM (mem := m94) l94 (fun _ _ h => h) (fun m95 e95 l95 k95 => ?_)
  have f95_0 := k95 _ _ f94_0
  have f95_1 := k95 _ _ f94_1
  have f95_32 := k95 _ _ f94_32
  refine mS_steps (pc' := 34) (ls' := [.ref 19, .int (30 : Int32)]) (st' := []) (mem' := m95) 0 rfl ?_
  refine mS_one (pc' := 37) (ls' := [.ref 19, .int (31 : Int32)]) (st' := []) (mem' := m95) rfl (by decide) (by show some (_, [Value.ref 19, Value.int ((30 : Int32) + 1)], _, _) = _; rw [show ((30 : Int32) + 1) = 31 from by decide]) ?_
  refine mS_steps (pc' := 18) (ls' := [.ref 19, .int (31 : Int32)]) (st' := [.int (40 : Int32), .int (31 : Int32)]) (mem' := m95) 3 rfl ?_
  refine mS_one (pc' := 21) (ls' := [.ref 19, .int (31 : Int32)]) (st' := []) (mem' := m95) rfl (by decide) (by show some (bif decide ((40 : Int32) ≤ 31) then _ else _, _, _, _) = _; rw [show decide ((40 : Int32) ≤ 31) = false from by decide]; rfl) ?_
  refine mS_steps (pc' := 22) (ls' := [.ref 19, .int (31 : Int32)]) (st' := [.ref 19]) (mem' := m95) 1 rfl ?_
  refine mS_getg (r := 20) rfl f95_0 (by decide) (by decide) (by subst_vars; rfl) ?_
  refine mS_steps (pc' := 26) (ls' := [.ref 19, .int (31 : Int32)]) (st' := [.int (31 : Int32), .ref 20]) (mem' := m95) 1 rfl ?_
  refine mS_nwL (a := 176) rfl l95 (by decide) (fun m96 e96 l96 n96 k96 => ?_)
  have f96_0 := k96 _ _ f95_0
  have f96_1 := k96 _ _ f95_1
  refine mS_steps (pc' := 30) (ls' := [.ref 19, .int (31 : Int32)]) (st' := [.ref 176, .ref 176, .int (31 : Int32), .ref 20]) (mem' := m96) 1 rfl ?_
  refine mS_call (q := ()) 0 1 [.ref 176] [.ref 176, .int (31 : Int32), .ref 20] rfl rfl rfl ⟨_, _, _, rfl, rfl⟩ (Nat.le_of_ble_eq_true rfl) (Nat.le_of_ble_eq_true rfl) rfl (c_X6_init_snd 176 177 m96 n96 l96 (by decide)) ?_
  refine mS_steps (pc' := 33) (ls' := [.ref 19, .int (31 : Int32)]) (st' := [.ref 176, .int (31 : Int32), .ref 20]) (mem' := c_X6_init 176 177 m96) 0 rfl ?_
  refine mS_genM (mem := m96) (c_X6_init_len l96) (fun _ _ h => c_X6_init_at h) (fun m97 e97 l97 k97 => ?_)
  have f97_0 := k97 _ _ f96_0
  have f97_1 := k97 _ _ f96_1
  have f97_33 := k97 _ _ n96
  refine mS_steps (pc' := 33) (ls' := [.ref 19, .int (31 : Int32)]) (st' := [.ref 176, .int (31 : Int32), .ref 20]) (mem' := m97) 0 rfl ?_
  refine mS_aag (c := 31) rfl f97_1 (by decide) f97_33 (by decide) (by decide) (by decide) ?_
  refine mS_genM (mem := m97) l97 (fun _ _ h => h) (fun m98 e98 l98 k98 => ?_)
  have f98_0 := k98 _ _ f97_0
  have f98_1 := k98 _ _ f97_1
  have f98_33 := k98 _ _ f97_33
  refine mS_steps (pc' := 34) (ls' := [.ref 19, .int (31 : Int32)]) (st' := []) (mem' := m98) 0 rfl ?_
  refine mS_one (pc' := 37) (ls' := [.ref 19, .int (32 : Int32)]) (st' := []) (mem' := m98) rfl (by decide) (by show some (_, [Value.ref 19, Value.int ((31 : Int32) + 1)], _, _) = _; rw [show ((31 : Int32) + 1) = 32 from by decide]) ?_
  refine mS_steps (pc' := 18) (ls' := [.ref 19, .int (32 : Int32)]) (st' := [.int (40 : Int32), .int (32 : Int32)]) (mem' := m98) 3 rfl ?_
  refine mS_one (pc' := 21) (ls' := [.ref 19, .int (32 : Int32)]) (st' := []) (mem' := m98) rfl (by decide) (by show some (bif decide ((40 : Int32) ≤ 32) then _ else _, _, _, _) = _; rw [show decide ((40 : Int32) ≤ 32) = false from by decide]; rfl) ?_
  refine mS_steps (pc' := 22) (ls' := [.ref 19, .int (32 : Int32)]) (st' := [.ref 19]) (mem' := m98) 1 rfl ?_
  refine mS_getg (r := 20) rfl f98_0 (by decide) (by decide) (by subst_vars; rfl) ?_
  refine mS_steps (pc' := 26) (ls' := [.ref 19, .int (32 : Int32)]) (st' := [.int (32 : Int32), .ref 20]) (mem' := m98) 1 rfl ?_
  refine mS_nwL (a := 181) rfl l98 (by decide) (fun m99 e99 l99 n99 k99 => ?_)
  have f99_0 := k99 _ _ f98_0
  have f99_1 := k99 _ _ f98_1
  refine mS_steps (pc' := 30) (ls' := [.ref 19, .int (32 : Int32)]) (st' := [.ref 181, .ref 181, .int (32 : Int32), .ref 20]) (mem' := m99) 1 rfl ?_
  refine mS_call (q := ()) 0 1 [.ref 181] [.ref 181, .int (32 : Int32), .ref 20] rfl rfl rfl ⟨_, _, _, rfl, rfl⟩ (Nat.le_of_ble_eq_true rfl) (Nat.le_of_ble_eq_true rfl) rfl (c_X6_init_snd 181 182 m99 n99 l99 (by decide)) ?_
  refine mS_steps (pc' := 33) (ls' := [.ref 19, .int (32 : Int32)]) (st' := [.ref 181, .int (32 : Int32), .ref 20]) (mem' := c_X6_init 181 182 m99) 0 rfl ?_
  refine mS_genM (mem := m99) (c_X6_init_len l99) (fun _ _ h => c_X6_init_at h) (fun m100 e100 l100 k100 => ?_)
  have f100_0 := k100 _ _ f99_0
  have f100_1 := k100 _ _ f99_1
  have f100_34 := k100 _ _ n99
  refine mS_steps (pc' := 33) (ls' := [.ref 19, .int (32 : Int32)]) (st' := [.ref 181, .int (32 : Int32), .ref 20]) (mem' := m100) 0 rfl ?_
  refine mS_aag (c := 32) rfl f100_1 (by decide) f100_34 (by decide) (by decide) (by decide) ?_
  refine mS_genM (mem := m100) l100 (fun _ _ h => h) (fun m101 e101 l101 k101 => ?_)
  have f101_0 := k101 _ _ f100_0
  have f101_1 := k101 _ _ f100_1
  have f101_34 := k101 _ _ f100_34
  refine mS_steps (pc' := 34) (ls' := [.ref 19, .int (32 : Int32)]) (st' := []) (mem' := m101) 0 rfl ?_
  refine mS_one (pc' := 37) (ls' := [.ref 19, .int (33 : Int32)]) (st' := []) (mem' := m101) rfl (by decide) (by show some (_, [Value.ref 19, Value.int ((32 : Int32) + 1)], _, _) = _; rw [show ((32 : Int32) + 1) = 33 from by decide]) ?_
  refine mS_steps (pc' := 18) (ls' := [.ref 19, .int (33 : Int32)]) (st' := [.int (40 : Int32), .int (33 : Int32)]) (mem' := m101) 3 rfl ?_
  refine mS_one (pc' := 21) (ls' := [.ref 19, .int (33 : Int32)]) (st' := []) (mem' := m101) rfl (by decide) (by show some (bif decide ((40 : Int32) ≤ 33) then _ else _, _, _, _) = _; rw [show decide ((40 : Int32) ≤ 33) = false from by decide]; rfl) ?_
  refine mS_steps (pc' := 22) (ls' := [.ref 19, .int (33 : Int32)]) (st' := [.ref 19]) (mem' := m101) 1 rfl ?_
  refine mS_getg (r := 20) rfl f101_0 (by decide) (by decide) (by subst_vars; rfl) ?_
  refine mS_steps (pc' := 26) (ls' := [.ref 19, .int (33 : Int32)]) (st' := [.int (33 : Int32), .ref 20]) (mem' := m101) 1 rfl ?_
  refine mS_nwL (a := 186) rfl l101 (by decide) (fun m102 e102 l102 n102 k102 => ?_)
  have f102_0 := k102 _ _ f101_0
  have f102_1 := k102 _ _ f101_1
  refine mS_steps (pc' := 30) (ls' := [.ref 19, .int (33 : Int32)]) (st' := [.ref 186, .ref 186, .int (33 : Int32), .ref 20]) (mem' := m102) 1 rfl ?_
  refine mS_call (q := ()) 0 1 [.ref 186] [.ref 186, .int (33 : Int32), .ref 20] rfl rfl rfl ⟨_, _, _, rfl, rfl⟩ (Nat.le_of_ble_eq_true rfl) (Nat.le_of_ble_eq_true rfl) rfl (c_X6_init_snd 186 187 m102 n102 l102 (by decide)) ?_
  refine mS_steps (pc' := 33) (ls' := [.ref 19, .int (33 : Int32)]) (st' := [.ref 186, .int (33 : Int32), .ref 20]) (mem' := c_X6_init 186 187 m102) 0 rfl ?_
  refine mS_genM (mem := m102) (c_X6_init_len l102) (fun _ _ h => c_X6_init_at h) (fun m103 e103 l103 k103 => ?_)
  have f103_0 := k103 _ _ f102_0
  have f103_1 := k103 _ _ f102_1
  have f103_35 := k103 _ _ n102
  refine mS_steps (pc' := 33) (ls' := [.ref 19, .int (33 : Int32)]) (st' := [.ref 186, .int (33 : Int32), .ref 20]) (mem' := m103) 0 rfl ?_
  refine mS_aag (c := 33) rfl f103_1 (by decide) f103_35 (by decide) (by decide) (by decide) ?_
  refine mS_genM (mem := m103) l103 (fun _ _ h => h) (fun m104 e104 l104 k104 => ?_)
  have f104_0 := k104 _ _ f103_0
  have f104_1 := k104 _ _ f103_1
  have f104_35 := k104 _ _ f103_35
  refine mS_steps (pc' := 34) (ls' := [.ref 19, .int (33 : Int32)]) (st' := []) (mem' := m104) 0 rfl ?_
  refine mS_one (pc' := 37) (ls' := [.ref 19, .int (34 : Int32)]) (st' := []) (mem' := m104) rfl (by decide) (by show some (_, [Value.ref 19, Value.int ((33 : Int32) + 1)], _, _) = _; rw [show ((33 : Int32) + 1) = 34 from by decide]) ?_
  refine mS_steps (pc' := 18) (ls' := [.ref 19, .int (34 : Int32)]) (st' := [.int (40 : Int32), .int (34 : Int32)]) (mem' := m104) 3 rfl ?_
  refine mS_one (pc' := 21) (ls' := [.ref 19, .int (34 : Int32)]) (st' := []) (mem' := m104) rfl (by decide) (by show some (bif decide ((40 : Int32) ≤ 34) then _ else _, _, _, _) = _; rw [show decide ((40 : Int32) ≤ 34) = false from by decide]; rfl) ?_
  refine mS_steps (pc' := 22) (ls' := [.ref 19, .int (34 : Int32)]) (st' := [.ref 19]) (mem' := m104) 1 rfl ?_
  refine mS_getg (r := 20) rfl f104_0 (by decide) (by decide) (by subst_vars; rfl) ?_
  refine mS_steps (pc' := 26) (ls' := [.ref 19, .int (34 : Int32)]) (st' := [.int (34 : Int32), .ref 20]) (mem' := m104) 1 rfl ?_
  refine mS_nwL (a := 191) rfl l104 (by decide) (fun m105 e105 l105 n105 k105 => ?_)
  have f105_0 := k105 _ _ f104_0
  have f105_1 := k105 _ _ f104_1
  refine mS_steps (pc' := 30) (ls' := [.ref 19, .int (34 : Int32)]) (st' := [.ref 191, .ref 191, .int (34 : Int32), .ref 20]) (mem' := m105) 1 rfl ?_
  refine mS_call (q := ()) 0 1 [.ref 191] [.ref 191, .int (34 : Int32), .ref 20] rfl rfl rfl ⟨_, _, _, rfl, rfl⟩ (Nat.le_of_ble_eq_true rfl) (Nat.le_of_ble_eq_true rfl) rfl (c_X6_init_snd 191 192 m105 n105 l105 (by decide)) ?_
  refine mS_steps (pc' := 33) (ls' := [.ref 19, .int (34 : Int32)]) (st' := [.ref 191, .int (34 : Int32), .ref 20]) (mem' := c_X6_init 191 192 m105) 0 rfl ?_
  refine mS_genM (mem := m105) (c_X6_init_len l105) (fun _ _ h => c_X6_init_at h) (fun m106 e106 l106 k106 => ?_)
  have f106_0 := k106 _ _ f105_0
  have f106_1 := k106 _ _ f105_1
  have f106_36 := k106 _ _ n105
  refine mS_steps (pc' := 33) (ls' := [.ref 19, .int (34 : Int32)]) (st' := [.ref 191, .int (34 : Int32), .ref 20]) (mem' := m106) 0 rfl ?_
  refine mS_aag (c := 34) rfl f106_1 (by decide) f106_36 (by decide) (by decide) (by decide) ?_
  refine mS_genM (mem := m106) l106 (fun _ _ h => h) (fun m107 e107 l107 k107 => ?_)
  have f107_0 := k107 _ _ f106_0
  have f107_1 := k107 _ _ f106_1
  have f107_36 := k107 _ _ f106_36
  refine mS_steps (pc' := 34) (ls' := [.ref 19, .int (34 : Int32)]) (st' := []) (mem' := m107) 0 rfl ?_
  refine mS_one (pc' := 37) (ls' := [.ref 19, .int (35 : Int32)]) (st' := []) (mem' := m107) rfl (by decide) (by show some (_, [Value.ref 19, Value.int ((34 : Int32) + 1)], _, _) = _; rw [show ((34 : Int32) + 1) = 35 from by decide]) ?_
  refine mS_steps (pc' := 18) (ls' := [.ref 19, .int (35 : Int32)]) (st' := [.int (40 : Int32), .int (35 : Int32)]) (mem' := m107) 3 rfl ?_
  refine mS_one (pc' := 21) (ls' := [.ref 19, .int (35 : Int32)]) (st' := []) (mem' := m107) rfl (by decide) (by show some (bif decide ((40 : Int32) ≤ 35) then _ else _, _, _, _) = _; rw [show decide ((40 : Int32) ≤ 35) = false from by decide]; rfl) ?_
  refine mS_steps (pc' := 22) (ls' := [.ref 19, .int (35 : Int32)]) (st' := [.ref 19]) (mem' := m107) 1 rfl ?_
  refine mS_getg (r := 20) rfl f107_0 (by decide) (by decide) (by subst_vars; rfl) ?_
  refine mS_steps (pc' := 26) (ls' := [.ref 19, .int (35 : Int32)]) (st' := [.int (35 : Int32), .ref 20]) (mem' := m107) 1 rfl ?_
  refine mS_nwL (a := 196) rfl l107 (by decide) (fun m108 e108 l108 n108 k108 => ?_)
  have f108_0 := k108 _ _ f107_0
  have f108_1 := k108 _ _ f107_1
  refine mS_steps (pc' := 30) (ls' := [.ref 19, .int (35 : Int32)]) (st' := [.ref 196, .ref 196, .int (35 : Int32), .ref 20]) (mem' := m108) 1 rfl ?_
  refine mS_call (q := ()) 0 1 [.ref 196] [.ref 196, .int (35 : Int32), .ref 20] rfl rfl rfl ⟨_, _, _, rfl, rfl⟩ (Nat.le_of_ble_eq_true rfl) (Nat.le_of_ble_eq_true rfl) rfl (c_X6_init_snd 196 197 m108 n108 l108 (by decide)) ?_
  refine mS_steps (pc' := 33) (ls' := [.ref 19, .int (35 : Int32)]) (st' := [.ref 196, .int (35 : Int32), .ref 20]) (mem' := c_X6_init 196 197 m108) 0 rfl ?_
  refine mS_genM (mem := m108) (c_X6_init_len l108) (fun _ _ h => c_X6_init_at h) (fun m109 e109 l109 k109 => ?_)
  have f109_0 := k109 _ _ f108_0
  have f109_1 := k109 _ _ f108_1
  have f109_37 := k109 _ _ n108
  refine mS_steps (pc' := 33) (ls' := [.ref 19, .int (35 : Int32)]) (st' := [.ref 196, .int (35 : Int32), .ref 20]) (mem' := m109) 0 rfl ?_
  refine mS_aag (c := 35) rfl f109_1 (by decide) f109_37 (by decide) (by decide) (by decide) ?_
  refine mS_genM (mem := m109) l109 (fun _ _ h => h) (fun m110 e110 l110 k110 => ?_)
  have f110_0 := k110 _ _ f109_0
  have f110_1 := k110 _ _ f109_1
  have f110_37 := k110 _ _ f109_37
  refine mS_steps (pc' := 34) (ls' := [.ref 19, .int (35 : Int32)]) (st' := []) (mem' := m110) 0 rfl ?_
  refine mS_one (pc' := 37) (ls' := [.ref 19, .int (36 : Int32)]) (st' := []) (mem' := m110) rfl (by decide) (by show some (_, [Value.ref 19, Value.int ((35 : Int32) + 1)], _, _) = _; rw [show ((35 : Int32) + 1) = 36 from by decide]) ?_
  refine mS_steps (pc' := 18) (ls' := [.ref 19, .int (36 : Int32)]) (st' := [.int (40 : Int32), .int (36 : Int32)]) (mem' := m110) 3 rfl ?_
  refine mS_one (pc' := 21) (ls' := [.ref 19, .int (36 : Int32)]) (st' := []) (mem' := m110) rfl (by decide) (by show some (bif decide ((40 : Int32) ≤ 36) then _ else _, _, _, _) = _; rw [show decide ((40 : Int32) ≤ 36) = false from by decide]; rfl) ?_
  refine mS_steps (pc' := 22) (ls' := [.ref 19, .int (36 : Int32)]) (st' := [.ref 19]) (mem' := m110) 1 rfl ?_
  refine mS_getg (r := 20) rfl f110_0 (by decide) (by decide) (by subst_vars; rfl) ?_
  refine mS_steps (pc' := 26) (ls' := [.ref 19, .int (36 : Int32)]) (st' := [.int (36 : Int32), .ref 20]) (mem' := m110) 1 rfl ?_
  refine mS_nwL (a := 201) rfl l110 (by decide) (fun m111 e111 l111 n111 k111 => ?_)
  have f111_0 := k111 _ _ f110_0
  have f111_1 := k111 _ _ f110_1
  refine mS_steps (pc' := 30) (ls' := [.ref 19, .int (36 : Int32)]) (st' := [.ref 201, .ref 201, .int (36 : Int32), .ref 20]) (mem' := m111) 1 rfl ?_
  refine mS_call (q := ()) 0 1 [.ref 201] [.ref 201, .int (36 : Int32), .ref 20] rfl rfl rfl ⟨_, _, _, rfl, rfl⟩ (Nat.le_of_ble_eq_true rfl) (Nat.le_of_ble_eq_true rfl) rfl (c_X6_init_snd 201 202 m111 n111 l111 (by decide)) ?_
  refine mS_steps (pc' := 33) (ls' := [.ref 19, .int (36 : Int32)]) (st' := [.ref 201, .int (36 : Int32), .ref 20]) (mem' := c_X6_init 201 202 m111) 0 rfl ?_
  refine mS_genM (mem := m111) (c_X6_init_len l111) (fun _ _ h => c_X6_init_at h) (fun m112 e112 l112 k112 => ?_)
  have f112_0 := k112 _ _ f111_0
  have f112_1 := k112 _ _ f111_1
  have f112_38 := k112 _ _ n111
  refine mS_steps (pc' := 33) (ls' := [.ref 19, .int (36 : Int32)]) (st' := [.ref 201, .int (36 : Int32), .ref 20]) (mem' := m112) 0 rfl ?_
  refine mS_aag (c := 36) rfl f112_1 (by decide) f112_38 (by decide) (by decide) (by decide) ?_
  refine mS_genM (mem := m112) l112 (fun _ _ h => h) (fun m113 e113 l113 k113 => ?_)
  have f113_0 := k113 _ _ f112_0
  have f113_1 := k113 _ _ f112_1
  have f113_38 := k113 _ _ f112_38
  refine mS_steps (pc' := 34) (ls' := [.ref 19, .int (36 : Int32)]) (st' := []) (mem' := m113) 0 rfl ?_
  refine mS_one (pc' := 37) (ls' := [.ref 19, .int (37 : Int32)]) (st' := []) (mem' := m113) rfl (by decide) (by show some (_, [Value.ref 19, Value.int ((36 : Int32) + 1)], _, _) = _; rw [show ((36 : Int32) + 1) = 37 from by decide]) ?_
  refine mS_steps (pc' := 18) (ls' := [.ref 19, .int (37 : Int32)]) (st' := [.int (40 : Int32), .int (37 : Int32)]) (mem' := m113) 3 rfl ?_
  refine mS_one (pc' := 21) (ls' := [.ref 19, .int (37 : Int32)]) (st' := []) (mem' := m113) rfl (by decide) (by show some (bif decide ((40 : Int32) ≤ 37) then _ else _, _, _, _) = _; rw [show decide ((40 : Int32) ≤ 37) = false from by decide]; rfl) ?_
  refine mS_steps (pc' := 22) (ls' := [.ref 19, .int (37 : Int32)]) (st' := [.ref 19]) (mem' := m113) 1 rfl ?_
  refine mS_getg (r := 20) rfl f113_0 (by decide) (by decide) (by subst_vars; rfl) ?_
  refine mS_steps (pc' := 26) (ls' := [.ref 19, .int (37 : Int32)]) (st' := [.int (37 : Int32), .ref 20]) (mem' := m113) 1 rfl ?_
  refine mS_nwL (a := 206) rfl l113 (by decide) (fun m114 e114 l114 n114 k114 => ?_)
  have f114_0 := k114 _ _ f113_0
  have f114_1 := k114 _ _ f113_1
  refine mS_steps (pc' := 30) (ls' := [.ref 19, .int (37 : Int32)]) (st' := [.ref 206, .ref 206, .int (37 : Int32), .ref 20]) (mem' := m114) 1 rfl ?_
  refine mS_call (q := ()) 0 1 [.ref 206] [.ref 206, .int (37 : Int32), .ref 20] rfl rfl rfl ⟨_, _, _, rfl, rfl⟩ (Nat.le_of_ble_eq_true rfl) (Nat.le_of_ble_eq_true rfl) rfl (c_X6_init_snd 206 207 m114 n114 l114 (by decide)) ?_
  refine mS_steps (pc' := 33) (ls' := [.ref 19, .int (37 : Int32)]) (st' := [.ref 206, .int (37 : Int32), .ref 20]) (mem' := c_X6_init 206 207 m114) 0 rfl ?_
  refine mS_genM (mem := m114) (c_X6_init_len l114) (fun _ _ h => c_X6_init_at h) (fun m115 e115 l115 k115 => ?_)
  have f115_0 := k115 _ _ f114_0
  have f115_1 := k115 _ _ f114_1
  have f115_39 := k115 _ _ n114
  refine mS_steps (pc' := 33) (ls' := [.ref 19, .int (37 : Int32)]) (st' := [.ref 206, .int (37 : Int32), .ref 20]) (mem' := m115) 0 rfl ?_
  refine mS_aag (c := 37) rfl f115_1 (by decide) f115_39 (by decide) (by decide) (by decide) ?_
  refine mS_genM (mem := m115) l115 (fun _ _ h => h) (fun m116 e116 l116 k116 => ?_)
  have f116_0 := k116 _ _ f115_0
  have f116_1 := k116 _ _ f115_1
  have f116_39 := k116 _ _ f115_39
  refine mS_steps (pc' := 34) (ls' := [.ref 19, .int (37 : Int32)]) (st' := []) (mem' := m116) 0 rfl ?_
  refine mS_one (pc' := 37) (ls' := [.ref 19, .int (38 : Int32)]) (st' := []) (mem' := m116) rfl (by decide) (by show some (_, [Value.ref 19, Value.int ((37 : Int32) + 1)], _, _) = _; rw [show ((37 : Int32) + 1) = 38 from by decide]) ?_
  refine mS_steps (pc' := 18) (ls' := [.ref 19, .int (38 : Int32)]) (st' := [.int (40 : Int32), .int (38 : Int32)]) (mem' := m116) 3 rfl ?_
  refine mS_one (pc' := 21) (ls' := [.ref 19, .int (38 : Int32)]) (st' := []) (mem' := m116) rfl (by decide) (by show some (bif decide ((40 : Int32) ≤ 38) then _ else _, _, _, _) = _; rw [show decide ((40 : Int32) ≤ 38) = false from by decide]; rfl) ?_
  refine mS_steps (pc' := 22) (ls' := [.ref 19, .int (38 : Int32)]) (st' := [.ref 19]) (mem' := m116) 1 rfl ?_
  refine mS_getg (r := 20) rfl f116_0 (by decide) (by decide) (by subst_vars; rfl) ?_
  refine mS_steps (pc' := 26) (ls' := [.ref 19, .int (38 : Int32)]) (st' := [.int (38 : Int32), .ref 20]) (mem' := m116) 1 rfl ?_
  refine mS_nwL (a := 211) rfl l116 (by decide) (fun m117 e117 l117 n117 k117 => ?_)
  have f117_0 := k117 _ _ f116_0
  have f117_1 := k117 _ _ f116_1
  refine mS_steps (pc' := 30) (ls' := [.ref 19, .int (38 : Int32)]) (st' := [.ref 211, .ref 211, .int (38 : Int32), .ref 20]) (mem' := m117) 1 rfl ?_
  refine mS_call (q := ()) 0 1 [.ref 211] [.ref 211, .int (38 : Int32), .ref 20] rfl rfl rfl ⟨_, _, _, rfl, rfl⟩ (Nat.le_of_ble_eq_true rfl) (Nat.le_of_ble_eq_true rfl) rfl (c_X6_init_snd 211 212 m117 n117 l117 (by decide)) ?_
  refine mS_steps (pc' := 33) (ls' := [.ref 19, .int (38 : Int32)]) (st' := [.ref 211, .int (38 : Int32), .ref 20]) (mem' := c_X6_init 211 212 m117) 0 rfl ?_
  refine mS_genM (mem := m117) (c_X6_init_len l117) (fun _ _ h => c_X6_init_at h) (fun m118 e118 l118 k118 => ?_)
  have f118_0 := k118 _ _ f117_0
  have f118_1 := k118 _ _ f117_1
  have f118_40 := k118 _ _ n117
  refine mS_steps (pc' := 33) (ls' := [.ref 19, .int (38 : Int32)]) (st' := [.ref 211, .int (38 : Int32), .ref 20]) (mem' := m118) 0 rfl ?_
  refine mS_aag (c := 38) rfl f118_1 (by decide) f118_40 (by decide) (by decide) (by decide) ?_
  refine mS_genM (mem := m118) l118 (fun _ _ h => h) (fun m119 e119 l119 k119 => ?_)
  have f119_0 := k119 _ _ f118_0
  have f119_1 := k119 _ _ f118_1
  have f119_40 := k119 _ _ f118_40
  refine mS_steps (pc' := 34) (ls' := [.ref 19, .int (38 : Int32)]) (st' := []) (mem' := m119) 0 rfl ?_
  refine mS_one (pc' := 37) (ls' := [.ref 19, .int (39 : Int32)]) (st' := []) (mem' := m119) rfl (by decide) (by show some (_, [Value.ref 19, Value.int ((38 : Int32) + 1)], _, _) = _; rw [show ((38 : Int32) + 1) = 39 from by decide]) ?_
  refine mS_steps (pc' := 18) (ls' := [.ref 19, .int (39 : Int32)]) (st' := [.int (40 : Int32), .int (39 : Int32)]) (mem' := m119) 3 rfl ?_
  refine mS_one (pc' := 21) (ls' := [.ref 19, .int (39 : Int32)]) (st' := []) (mem' := m119) rfl (by decide) (by show some (bif decide ((40 : Int32) ≤ 39) then _ else _, _, _, _) = _; rw [show decide ((40 : Int32) ≤ 39) = false from by decide]; rfl) ?_
  refine mS_steps (pc' := 22) (ls' := [.ref 19, .int (39 : Int32)]) (st' := [.ref 19]) (mem' := m119) 1 rfl ?_
  refine mS_getg (r := 20) rfl f119_0 (by decide) (by decide) (by subst_vars; rfl) ?_
  refine mS_steps (pc' := 26) (ls' := [.ref 19, .int (39 : Int32)]) (st' := [.int (39 : Int32), .ref 20]) (mem' := m119) 1 rfl ?_
  refine mS_nwL (a := 216) rfl l119 (by decide) (fun m120 e120 l120 n120 k120 => ?_)
  have f120_0 := k120 _ _ f119_0
  have f120_1 := k120 _ _ f119_1
  refine mS_steps (pc' := 30) (ls' := [.ref 19, .int (39 : Int32)]) (st' := [.ref 216, .ref 216, .int (39 : Int32), .ref 20]) (mem' := m120) 1 rfl ?_
  refine mS_call (q := ()) 0 1 [.ref 216] [.ref 216, .int (39 : Int32), .ref 20] rfl rfl rfl ⟨_, _, _, rfl, rfl⟩ (Nat.le_of_ble_eq_true rfl) (Nat.le_of_ble_eq_true rfl) rfl (c_X6_init_snd 216 217 m120 n120 l120 (by decide)) ?_
  refine mS_steps (pc' := 33) (ls' := [.ref 19, .int (39 : Int32)]) (st' := [.ref 216, .int (39 : Int32), .ref 20]) (mem' := c_X6_init 216 217 m120) 0 rfl ?_
  refine mS_genM (mem := m120) (c_X6_init_len l120) (fun _ _ h => c_X6_init_at h) (fun m121 e121 l121 k121 => ?_)
  have f121_0 := k121 _ _ f120_0
  have f121_1 := k121 _ _ f120_1
  have f121_41 := k121 _ _ n120
  refine mS_steps (pc' := 33) (ls' := [.ref 19, .int (39 : Int32)]) (st' := [.ref 216, .int (39 : Int32), .ref 20]) (mem' := m121) 0 rfl ?_
  refine mS_aag (c := 39) rfl f121_1 (by decide) f121_41 (by decide) (by decide) (by decide) ?_
  refine mS_genM (mem := m121) l121 (fun _ _ h => h) (fun m122 e122 l122 k122 => ?_)
  have f122_0 := k122 _ _ f121_0
  have f122_1 := k122 _ _ f121_1
  have f122_41 := k122 _ _ f121_41
  refine mS_steps (pc' := 34) (ls' := [.ref 19, .int (39 : Int32)]) (st' := []) (mem' := m122) 0 rfl ?_
  refine mS_one (pc' := 37) (ls' := [.ref 19, .int (40 : Int32)]) (st' := []) (mem' := m122) rfl (by decide) (by show some (_, [Value.ref 19, Value.int ((39 : Int32) + 1)], _, _) = _; rw [show ((39 : Int32) + 1) = 40 from by decide]) ?_
  refine mS_steps (pc' := 18) (ls' := [.ref 19, .int (40 : Int32)]) (st' := [.int (40 : Int32), .int (40 : Int32)]) (mem' := m122) 3 rfl ?_
  refine mS_one (pc' := 40) (ls' := [.ref 19, .int (40 : Int32)]) (st' := []) (mem' := m122) rfl (by decide) (by show some (bif decide ((40 : Int32) ≤ 40) then _ else _, _, _, _) = _; rw [show decide ((40 : Int32) ≤ 40) = true from by decide]; rfl) ?_
  refine mS_steps (pc' := 40) (ls' := [.ref 19, .int (40 : Int32)]) (st' := []) (mem' := m122) 0 rfl ?_
  exact mS_retv ⟨_, _, _, _, _, rfl⟩ (by subst e122 e121 e120 e119 e118 e117 e116 e115 e114 e113 e112 e111 e110 e109 e108 e107 e106 e105 e104 e103 e102 e101 e100 e99 e98 e97 e96 e95 e94 e93 e92 e91 e90 e89 e88 e87 e86 e85 e84 e83 e82 e81 e80 e79 e78 e77 e76 e75 e74 e73 e72 e71 e70 e69 e68 e67 e66 e65 e64 e63 e62 e61 e60 e59 e58 e57 e56 e55 e54 e53 e52 e51 e50 e49 e48 e47 e46 e45 e44 e43 e42 e41 e40 e39 e38 e37 e36 e35 e34 e33 e32 e31 e30 e29 e28 e27 e26 e25 e24 e23 e22 e21 e20 e19 e18 e17 e16 e15 e14 e13 e12 e11 e10 e9 e8 e7 e6 e5 e4 e3 e2 e1; rfl)
def c_X3_init (q a : Nat) (mem : mM) : mM := (m_pr q 6 (a + 4) (m_na 0 8 (a + 4) (m_pr q 5 (a + 3) (m_na 0 64 (a + 3) (m_pr q 4 (a + 2) (m_na 0 64 (a + 2) (m_pr q 2 (a + 1) (m_na 0 8 (a + 1) (m_pr q 1 a (m_na 0 8 a mem))))))))))
theorem c_X3_init_sh (q a : Nat) (mem : mM) : (c_X3_init q a mem).1 = mem.1 ++ [(100, 8), (100, 8), (100, 64), (100, 64), (100, 8)] := by
  show _ = _
  simp only [c_X3_init, m_nw, m_na, m_pr, m_pi, m_pj, List.append_assoc, List.cons_append, List.nil_append]
  rfl
theorem c_X3_init_at {q a k : Nat} {mem : mM} {s : Nat × Nat} (h : mem.1[k]? = some s) : (c_X3_init q a mem).1[k]? = some s := by
  rw [c_X3_init_sh, List.getElem?_append_left (List.getElem?_eq_some_iff.mp h).1]; exact h
theorem c_X3_init_len {q a n : Nat} {mem : mM} (h : mem.1.length = n) : (c_X3_init q a mem).1.length = n + 5 := by
  rw [c_X3_init_sh, List.length_append, h]; rfl
theorem c_X3_init_ge {q a n k : Nat} {mem : mM} (hq : q < n) (ha : a + 5 ≤ n) (h : n ≤ k) : (c_X3_init q a mem).2.2.2 k = mem.2.2.2 k := ((m_pr_ge (by omega) h).trans ((m_na_ge (by omega) h).trans ((m_pr_ge (by omega) h).trans ((m_na_ge (by omega) h).trans ((m_pr_ge (by omega) h).trans ((m_na_ge (by omega) h).trans ((m_pr_ge (by omega) h).trans ((m_na_ge (by omega) h).trans ((m_pr_ge (by omega) h).trans (m_na_ge (by omega) h))))))))))
set_option maxRecDepth 20000 in
set_option maxHeartbeats 4000000 in
theorem c_X3_init_snd {fm : Value} {L : Nat} {xs : Nat → Int32} (q a : Nat) (mem : mM) (hq : mem.1[q]? = some (3, 7)) (hl : mem.1.length = a) (hB : a < 900000) : mS fm L xs (fun _ : Unit => (mU, c_X3_init q a mem)) pg_X3_init 0 (m_entry [.ref q] 1) [] mem (some ()) := by
  have hqa : q < a := hl ▸ (List.getElem?_eq_some_iff.mp hq).1
  have hBB : (900000 : Nat) < mBIG := by decide
  refine mS_steps (pc' := 7) (ls' := [.ref q]) (st' := [.int (8 : Int32), .ref q]) (mem' := mem) 4 rfl ?_
  refine mS_naL (a := a) (N := 8) rfl hl (by omega) (by decide) (by decide) (by decide) (fun m1 e1 l1 n1 k1 => ?_)
  have f1_0 := k1 _ _ hq
  refine mS_steps (pc' := 9) (ls' := [.ref q]) (st' := [.ref a, .ref q]) (mem' := m1) 0 rfl ?_
  refine mS_prg rfl f1_0 (by omega) (by decide) ?_
  refine mS_genM (mem := m1) l1 (fun _ _ h => h) (fun m2 e2 l2 k2 => ?_)
  have f2_0 := k2 _ _ f1_0
  have f2_1 := k2 _ _ n1
  refine mS_steps (pc' := 15) (ls' := [.ref q]) (st' := [.int (8 : Int32), .ref q]) (mem' := m2) 2 rfl ?_
  refine mS_naL (a := (a + 1)) (N := 8) rfl l2 (by omega) (by decide) (by decide) (by decide) (fun m3 e3 l3 n3 k3 => ?_)
  have f3_0 := k3 _ _ f2_0
  have f3_1 := k3 _ _ f2_1
  refine mS_steps (pc' := 17) (ls' := [.ref q]) (st' := [.ref (a + 1), .ref q]) (mem' := m3) 0 rfl ?_
  refine mS_prg rfl f3_0 (by omega) (by decide) ?_
  refine mS_genM (mem := m3) l3 (fun _ _ h => h) (fun m4 e4 l4 k4 => ?_)
  have f4_0 := k4 _ _ f3_0
  have f4_1 := k4 _ _ f3_1
  have f4_2 := k4 _ _ n3
  refine mS_steps (pc' := 23) (ls' := [.ref q]) (st' := [.int (64 : Int32), .ref q]) (mem' := m4) 2 rfl ?_
  refine mS_naL (a := (a + 2)) (N := 64) rfl l4 (by omega) (by decide) (by decide) (by decide) (fun m5 e5 l5 n5 k5 => ?_)
  have f5_0 := k5 _ _ f4_0
  have f5_1 := k5 _ _ f4_1
  have f5_2 := k5 _ _ f4_2
  refine mS_steps (pc' := 25) (ls' := [.ref q]) (st' := [.ref (a + 2), .ref q]) (mem' := m5) 0 rfl ?_
  refine mS_prg rfl f5_0 (by omega) (by decide) ?_
  refine mS_genM (mem := m5) l5 (fun _ _ h => h) (fun m6 e6 l6 k6 => ?_)
  have f6_0 := k6 _ _ f5_0
  have f6_1 := k6 _ _ f5_1
  have f6_2 := k6 _ _ f5_2
  have f6_3 := k6 _ _ n5
  refine mS_steps (pc' := 31) (ls' := [.ref q]) (st' := [.int (64 : Int32), .ref q]) (mem' := m6) 2 rfl ?_
  refine mS_naL (a := (a + 3)) (N := 64) rfl l6 (by omega) (by decide) (by decide) (by decide) (fun m7 e7 l7 n7 k7 => ?_)
  have f7_0 := k7 _ _ f6_0
  have f7_1 := k7 _ _ f6_1
  have f7_2 := k7 _ _ f6_2
  have f7_3 := k7 _ _ f6_3
  refine mS_steps (pc' := 33) (ls' := [.ref q]) (st' := [.ref (a + 3), .ref q]) (mem' := m7) 0 rfl ?_
  refine mS_prg rfl f7_0 (by omega) (by decide) ?_
  refine mS_genM (mem := m7) l7 (fun _ _ h => h) (fun m8 e8 l8 k8 => ?_)
  have f8_0 := k8 _ _ f7_0
  have f8_1 := k8 _ _ f7_1
  have f8_2 := k8 _ _ f7_2
  have f8_3 := k8 _ _ f7_3
  have f8_4 := k8 _ _ n7
  refine mS_steps (pc' := 39) (ls' := [.ref q]) (st' := [.int (8 : Int32), .ref q]) (mem' := m8) 2 rfl ?_
  refine mS_naL (a := (a + 4)) (N := 8) rfl l8 (by omega) (by decide) (by decide) (by decide) (fun m9 e9 l9 n9 k9 => ?_)
  have f9_0 := k9 _ _ f8_0
  have f9_1 := k9 _ _ f8_1
  have f9_2 := k9 _ _ f8_2
  have f9_3 := k9 _ _ f8_3
  have f9_4 := k9 _ _ f8_4
  refine mS_steps (pc' := 41) (ls' := [.ref q]) (st' := [.ref (a + 4), .ref q]) (mem' := m9) 0 rfl ?_
  refine mS_prg rfl f9_0 (by omega) (by decide) ?_
  refine mS_genM (mem := m9) l9 (fun _ _ h => h) (fun m10 e10 l10 k10 => ?_)
  have f10_0 := k10 _ _ f9_0
  have f10_1 := k10 _ _ f9_1
  have f10_2 := k10 _ _ f9_2
  have f10_3 := k10 _ _ f9_3
  have f10_4 := k10 _ _ f9_4
  have f10_5 := k10 _ _ n9
  refine mS_steps (pc' := 44) (ls' := [.ref q]) (st' := []) (mem' := m10) 0 rfl ?_
  exact mS_retv ⟨_, _, _, _, _, rfl⟩ (by subst e10 e9 e8 e7 e6 e5 e4 e3 e2 e1; rfl)
def c_X7_init (mem : mM) : mM := (m_pr 234 6 239 (m_na 0 128 239 (m_pr 234 5 238 (m_na 0 128 238 (m_pr 234 4 237 (m_na 0 64 237 (m_pr 234 3 236 (m_na 0 64 236 (m_pr 234 1 235 (m_na 0 8 235 mem))))))))))
theorem c_X7_init_sh (mem : mM) : (c_X7_init mem).1 = mem.1 ++ [(100, 8), (100, 64), (100, 64), (100, 128), (100, 128)] := by
  show _ = _
  simp only [c_X7_init, m_nw, m_na, m_pr, m_pi, m_pj, List.append_assoc, List.cons_append, List.nil_append]
  rfl
theorem c_X7_init_at {k : Nat} {mem : mM} {s : Nat × Nat} (h : mem.1[k]? = some s) : (c_X7_init mem).1[k]? = some s := by
  rw [c_X7_init_sh, List.getElem?_append_left (List.getElem?_eq_some_iff.mp h).1]; exact h
theorem c_X7_init_len {n : Nat} {mem : mM} (h : mem.1.length = n) : (c_X7_init mem).1.length = n + 5 := by
  rw [c_X7_init_sh, List.length_append, h]; rfl
set_option maxRecDepth 20000 in
theorem c_X7_init_ge {k : Nat} {mem : mM} (h : 315 ≤ k) : (c_X7_init mem).2.2.2 k = mem.2.2.2 k := ((m_pr_ge (by decide) h).trans ((m_na_ge (by decide) h).trans ((m_pr_ge (by decide) h).trans ((m_na_ge (by decide) h).trans ((m_pr_ge (by decide) h).trans ((m_na_ge (by decide) h).trans ((m_pr_ge (by decide) h).trans ((m_na_ge (by decide) h).trans ((m_pr_ge (by decide) h).trans (m_na_ge (by decide) h))))))))))
set_option maxRecDepth 20000 in
set_option maxHeartbeats 4000000 in
theorem c_X7_init_snd {fm : Value} {L : Nat} {xs : Nat → Int32} (mem : mM) (hq : mem.1[234]? = some (7, 7)) (hl : mem.1.length = 235) : mS fm L xs (fun _ : Unit => (mU, c_X7_init mem)) pg_X7_init 0 (m_entry [.ref 234] 1) [] mem (some ()) := by
  refine mS_steps (pc' := 7) (ls' := [.ref 234]) (st' := [.int (8 : Int32), .ref 234]) (mem' := mem) 4 rfl ?_
  refine mS_naL (a := 235) (N := 8) rfl hl (by decide) (by decide) (by decide) (by decide) (fun m1 e1 l1 n1 k1 => ?_)
  have f1_0 := k1 _ _ hq
  refine mS_steps (pc' := 9) (ls' := [.ref 234]) (st' := [.ref 235, .ref 234]) (mem' := m1) 0 rfl ?_
  refine mS_prg rfl f1_0 (by decide) (by decide) ?_
  refine mS_genM (mem := m1) l1 (fun _ _ h => h) (fun m2 e2 l2 k2 => ?_)
  have f2_0 := k2 _ _ f1_0
  have f2_1 := k2 _ _ n1
  refine mS_steps (pc' := 15) (ls' := [.ref 234]) (st' := [.int (64 : Int32), .ref 234]) (mem' := m2) 2 rfl ?_
  refine mS_naL (a := 236) (N := 64) rfl l2 (by decide) (by decide) (by decide) (by decide) (fun m3 e3 l3 n3 k3 => ?_)
  have f3_0 := k3 _ _ f2_0
  have f3_1 := k3 _ _ f2_1
  refine mS_steps (pc' := 17) (ls' := [.ref 234]) (st' := [.ref 236, .ref 234]) (mem' := m3) 0 rfl ?_
  refine mS_prg rfl f3_0 (by decide) (by decide) ?_
  refine mS_genM (mem := m3) l3 (fun _ _ h => h) (fun m4 e4 l4 k4 => ?_)
  have f4_0 := k4 _ _ f3_0
  have f4_1 := k4 _ _ f3_1
  have f4_2 := k4 _ _ n3
  refine mS_steps (pc' := 23) (ls' := [.ref 234]) (st' := [.int (64 : Int32), .ref 234]) (mem' := m4) 2 rfl ?_
  refine mS_naL (a := 237) (N := 64) rfl l4 (by decide) (by decide) (by decide) (by decide) (fun m5 e5 l5 n5 k5 => ?_)
  have f5_0 := k5 _ _ f4_0
  have f5_1 := k5 _ _ f4_1
  have f5_2 := k5 _ _ f4_2
  refine mS_steps (pc' := 25) (ls' := [.ref 234]) (st' := [.ref 237, .ref 234]) (mem' := m5) 0 rfl ?_
  refine mS_prg rfl f5_0 (by decide) (by decide) ?_
  refine mS_genM (mem := m5) l5 (fun _ _ h => h) (fun m6 e6 l6 k6 => ?_)
  have f6_0 := k6 _ _ f5_0
  have f6_1 := k6 _ _ f5_1
  have f6_2 := k6 _ _ f5_2
  have f6_3 := k6 _ _ n5
  refine mS_steps (pc' := 32) (ls' := [.ref 234]) (st' := [.int (128 : Int32), .ref 234]) (mem' := m6) 2 rfl ?_
  refine mS_naL (a := 238) (N := 128) rfl l6 (by decide) (by decide) (by decide) (by decide) (fun m7 e7 l7 n7 k7 => ?_)
  have f7_0 := k7 _ _ f6_0
  have f7_1 := k7 _ _ f6_1
  have f7_2 := k7 _ _ f6_2
  have f7_3 := k7 _ _ f6_3
  refine mS_steps (pc' := 34) (ls' := [.ref 234]) (st' := [.ref 238, .ref 234]) (mem' := m7) 0 rfl ?_
  refine mS_prg rfl f7_0 (by decide) (by decide) ?_
  refine mS_genM (mem := m7) l7 (fun _ _ h => h) (fun m8 e8 l8 k8 => ?_)
  have f8_0 := k8 _ _ f7_0
  have f8_1 := k8 _ _ f7_1
  have f8_2 := k8 _ _ f7_2
  have f8_3 := k8 _ _ f7_3
  have f8_4 := k8 _ _ n7
  refine mS_steps (pc' := 41) (ls' := [.ref 234]) (st' := [.int (128 : Int32), .ref 234]) (mem' := m8) 2 rfl ?_
  refine mS_naL (a := 239) (N := 128) rfl l8 (by decide) (by decide) (by decide) (by decide) (fun m9 e9 l9 n9 k9 => ?_)
  have f9_0 := k9 _ _ f8_0
  have f9_1 := k9 _ _ f8_1
  have f9_2 := k9 _ _ f8_2
  have f9_3 := k9 _ _ f8_3
  have f9_4 := k9 _ _ f8_4
  refine mS_steps (pc' := 43) (ls' := [.ref 234]) (st' := [.ref 239, .ref 234]) (mem' := m9) 0 rfl ?_
  refine mS_prg rfl f9_0 (by decide) (by decide) ?_
  refine mS_genM (mem := m9) l9 (fun _ _ h => h) (fun m10 e10 l10 k10 => ?_)
  have f10_0 := k10 _ _ f9_0
  have f10_1 := k10 _ _ f9_1
  have f10_2 := k10 _ _ f9_2
  have f10_3 := k10 _ _ f9_3
  have f10_4 := k10 _ _ f9_4
  have f10_5 := k10 _ _ n9
  refine mS_steps (pc' := 46) (ls' := [.ref 234]) (st' := []) (mem' := m10) 0 rfl ?_
  exact mS_retv ⟨_, _, _, _, _, rfl⟩ (by subst e10 e9 e8 e7 e6 e5 e4 e3 e2 e1; rfl)
def c_X9_init (mem : mM) : mM := (m_pr 240 3 244 (m_na 0 8 244 (m_pr 240 2 243 (m_na 0 8 243 (m_pr 240 1 242 (m_na 0 8 242 (m_pr 240 0 241 (m_na 0 8 241 mem))))))))
theorem c_X9_init_sh (mem : mM) : (c_X9_init mem).1 = mem.1 ++ [(100, 8), (100, 8), (100, 8), (100, 8)] := by
  show _ = _
  simp only [c_X9_init, m_nw, m_na, m_pr, m_pi, m_pj, List.append_assoc, List.cons_append, List.nil_append]
  rfl
theorem c_X9_init_at {k : Nat} {mem : mM} {s : Nat × Nat} (h : mem.1[k]? = some s) : (c_X9_init mem).1[k]? = some s := by
  rw [c_X9_init_sh, List.getElem?_append_left (List.getElem?_eq_some_iff.mp h).1]; exact h
theorem c_X9_init_len {n : Nat} {mem : mM} (h : mem.1.length = n) : (c_X9_init mem).1.length = n + 4 := by
  rw [c_X9_init_sh, List.length_append, h]; rfl
set_option maxRecDepth 20000 in
theorem c_X9_init_ge {k : Nat} {mem : mM} (h : 315 ≤ k) : (c_X9_init mem).2.2.2 k = mem.2.2.2 k := ((m_pr_ge (by decide) h).trans ((m_na_ge (by decide) h).trans ((m_pr_ge (by decide) h).trans ((m_na_ge (by decide) h).trans ((m_pr_ge (by decide) h).trans ((m_na_ge (by decide) h).trans ((m_pr_ge (by decide) h).trans (m_na_ge (by decide) h))))))))
set_option maxRecDepth 20000 in
set_option maxHeartbeats 4000000 in
theorem c_X9_init_snd {fm : Value} {L : Nat} {xs : Nat → Int32} (mem : mM) (hq : mem.1[240]? = some (9, 5)) (hl : mem.1.length = 241) : mS fm L xs (fun _ : Unit => (mU, c_X9_init mem)) pg_X9_init 0 (m_entry [.ref 240] 1) [] mem (some ()) := by
  refine mS_steps (pc' := 7) (ls' := [.ref 240]) (st' := [.int (8 : Int32), .ref 240]) (mem' := mem) 4 rfl ?_
  refine mS_naL (a := 241) (N := 8) rfl hl (by decide) (by decide) (by decide) (by decide) (fun m1 e1 l1 n1 k1 => ?_)
  have f1_0 := k1 _ _ hq
  refine mS_steps (pc' := 9) (ls' := [.ref 240]) (st' := [.ref 241, .ref 240]) (mem' := m1) 0 rfl ?_
  refine mS_prg rfl f1_0 (by decide) (by decide) ?_
  refine mS_genM (mem := m1) l1 (fun _ _ h => h) (fun m2 e2 l2 k2 => ?_)
  have f2_0 := k2 _ _ f1_0
  have f2_1 := k2 _ _ n1
  refine mS_steps (pc' := 15) (ls' := [.ref 240]) (st' := [.int (8 : Int32), .ref 240]) (mem' := m2) 2 rfl ?_
  refine mS_naL (a := 242) (N := 8) rfl l2 (by decide) (by decide) (by decide) (by decide) (fun m3 e3 l3 n3 k3 => ?_)
  have f3_0 := k3 _ _ f2_0
  have f3_1 := k3 _ _ f2_1
  refine mS_steps (pc' := 17) (ls' := [.ref 240]) (st' := [.ref 242, .ref 240]) (mem' := m3) 0 rfl ?_
  refine mS_prg rfl f3_0 (by decide) (by decide) ?_
  refine mS_genM (mem := m3) l3 (fun _ _ h => h) (fun m4 e4 l4 k4 => ?_)
  have f4_0 := k4 _ _ f3_0
  have f4_1 := k4 _ _ f3_1
  have f4_2 := k4 _ _ n3
  refine mS_steps (pc' := 23) (ls' := [.ref 240]) (st' := [.int (8 : Int32), .ref 240]) (mem' := m4) 2 rfl ?_
  refine mS_naL (a := 243) (N := 8) rfl l4 (by decide) (by decide) (by decide) (by decide) (fun m5 e5 l5 n5 k5 => ?_)
  have f5_0 := k5 _ _ f4_0
  have f5_1 := k5 _ _ f4_1
  have f5_2 := k5 _ _ f4_2
  refine mS_steps (pc' := 25) (ls' := [.ref 240]) (st' := [.ref 243, .ref 240]) (mem' := m5) 0 rfl ?_
  refine mS_prg rfl f5_0 (by decide) (by decide) ?_
  refine mS_genM (mem := m5) l5 (fun _ _ h => h) (fun m6 e6 l6 k6 => ?_)
  have f6_0 := k6 _ _ f5_0
  have f6_1 := k6 _ _ f5_1
  have f6_2 := k6 _ _ f5_2
  have f6_3 := k6 _ _ n5
  refine mS_steps (pc' := 31) (ls' := [.ref 240]) (st' := [.int (8 : Int32), .ref 240]) (mem' := m6) 2 rfl ?_
  refine mS_naL (a := 244) (N := 8) rfl l6 (by decide) (by decide) (by decide) (by decide) (fun m7 e7 l7 n7 k7 => ?_)
  have f7_0 := k7 _ _ f6_0
  have f7_1 := k7 _ _ f6_1
  have f7_2 := k7 _ _ f6_2
  have f7_3 := k7 _ _ f6_3
  refine mS_steps (pc' := 33) (ls' := [.ref 240]) (st' := [.ref 244, .ref 240]) (mem' := m7) 0 rfl ?_
  refine mS_prg rfl f7_0 (by decide) (by decide) ?_
  refine mS_genM (mem := m7) l7 (fun _ _ h => h) (fun m8 e8 l8 k8 => ?_)
  have f8_0 := k8 _ _ f7_0
  have f8_1 := k8 _ _ f7_1
  have f8_2 := k8 _ _ f7_2
  have f8_3 := k8 _ _ f7_3
  have f8_4 := k8 _ _ n7
  refine mS_steps (pc' := 36) (ls' := [.ref 240]) (st' := []) (mem' := m8) 0 rfl ?_
  exact mS_retv ⟨_, _, _, _, _, rfl⟩ (by subst e8 e7 e6 e5 e4 e3 e2 e1; rfl)
def c_X0_init (mem : mM) : mM := (m_pr 245 8 250 (m_na 0 8 250 (m_pr 245 5 249 (m_na 0 8 249 (m_pr 245 4 248 (m_na 0 8 248 (m_pr 245 3 247 (m_na 0 17 247 (m_pr 245 2 246 (m_na 0 48 246 mem))))))))))
theorem c_X0_init_sh (mem : mM) : (c_X0_init mem).1 = mem.1 ++ [(100, 48), (100, 17), (100, 8), (100, 8), (100, 8)] := by
  show _ = _
  simp only [c_X0_init, m_nw, m_na, m_pr, m_pi, m_pj, List.append_assoc, List.cons_append, List.nil_append]
  rfl
theorem c_X0_init_at {k : Nat} {mem : mM} {s : Nat × Nat} (h : mem.1[k]? = some s) : (c_X0_init mem).1[k]? = some s := by
  rw [c_X0_init_sh, List.getElem?_append_left (List.getElem?_eq_some_iff.mp h).1]; exact h
theorem c_X0_init_len {n : Nat} {mem : mM} (h : mem.1.length = n) : (c_X0_init mem).1.length = n + 5 := by
  rw [c_X0_init_sh, List.length_append, h]; rfl
set_option maxRecDepth 20000 in
theorem c_X0_init_ge {k : Nat} {mem : mM} (h : 315 ≤ k) : (c_X0_init mem).2.2.2 k = mem.2.2.2 k := ((m_pr_ge (by decide) h).trans ((m_na_ge (by decide) h).trans ((m_pr_ge (by decide) h).trans ((m_na_ge (by decide) h).trans ((m_pr_ge (by decide) h).trans ((m_na_ge (by decide) h).trans ((m_pr_ge (by decide) h).trans ((m_na_ge (by decide) h).trans ((m_pr_ge (by decide) h).trans (m_na_ge (by decide) h))))))))))
set_option maxRecDepth 20000 in
set_option maxHeartbeats 4000000 in
theorem c_X0_init_snd {fm : Value} {L : Nat} {xs : Nat → Int32} (mem : mM) (hq : mem.1[245]? = some (0, 9)) (hl : mem.1.length = 246) : mS fm L xs (fun _ : Unit => (mU, c_X0_init mem)) pg_X0_init 0 (m_entry [.ref 245] 1) [] mem (some ()) := by
  refine mS_steps (pc' := 7) (ls' := [.ref 245]) (st' := [.int (48 : Int32), .ref 245]) (mem' := mem) 4 rfl ?_
  refine mS_naL (a := 246) (N := 48) rfl hl (by decide) (by decide) (by decide) (by decide) (fun m1 e1 l1 n1 k1 => ?_)
  have f1_0 := k1 _ _ hq
  refine mS_steps (pc' := 9) (ls' := [.ref 245]) (st' := [.ref 246, .ref 245]) (mem' := m1) 0 rfl ?_
  refine mS_prg rfl f1_0 (by decide) (by decide) ?_
  refine mS_genM (mem := m1) l1 (fun _ _ h => h) (fun m2 e2 l2 k2 => ?_)
  have f2_0 := k2 _ _ f1_0
  have f2_1 := k2 _ _ n1
  refine mS_steps (pc' := 15) (ls' := [.ref 245]) (st' := [.int (17 : Int32), .ref 245]) (mem' := m2) 2 rfl ?_
  refine mS_naL (a := 247) (N := 17) rfl l2 (by decide) (by decide) (by decide) (by decide) (fun m3 e3 l3 n3 k3 => ?_)
  have f3_0 := k3 _ _ f2_0
  have f3_1 := k3 _ _ f2_1
  refine mS_steps (pc' := 17) (ls' := [.ref 245]) (st' := [.ref 247, .ref 245]) (mem' := m3) 0 rfl ?_
  refine mS_prg rfl f3_0 (by decide) (by decide) ?_
  refine mS_genM (mem := m3) l3 (fun _ _ h => h) (fun m4 e4 l4 k4 => ?_)
  have f4_0 := k4 _ _ f3_0
  have f4_1 := k4 _ _ f3_1
  have f4_2 := k4 _ _ n3
  refine mS_steps (pc' := 23) (ls' := [.ref 245]) (st' := [.int (8 : Int32), .ref 245]) (mem' := m4) 2 rfl ?_
  refine mS_naL (a := 248) (N := 8) rfl l4 (by decide) (by decide) (by decide) (by decide) (fun m5 e5 l5 n5 k5 => ?_)
  have f5_0 := k5 _ _ f4_0
  have f5_1 := k5 _ _ f4_1
  have f5_2 := k5 _ _ f4_2
  refine mS_steps (pc' := 25) (ls' := [.ref 245]) (st' := [.ref 248, .ref 245]) (mem' := m5) 0 rfl ?_
  refine mS_prg rfl f5_0 (by decide) (by decide) ?_
  refine mS_genM (mem := m5) l5 (fun _ _ h => h) (fun m6 e6 l6 k6 => ?_)
  have f6_0 := k6 _ _ f5_0
  have f6_1 := k6 _ _ f5_1
  have f6_2 := k6 _ _ f5_2
  have f6_3 := k6 _ _ n5
  refine mS_steps (pc' := 31) (ls' := [.ref 245]) (st' := [.int (8 : Int32), .ref 245]) (mem' := m6) 2 rfl ?_
  refine mS_naL (a := 249) (N := 8) rfl l6 (by decide) (by decide) (by decide) (by decide) (fun m7 e7 l7 n7 k7 => ?_)
  have f7_0 := k7 _ _ f6_0
  have f7_1 := k7 _ _ f6_1
  have f7_2 := k7 _ _ f6_2
  have f7_3 := k7 _ _ f6_3
  refine mS_steps (pc' := 33) (ls' := [.ref 245]) (st' := [.ref 249, .ref 245]) (mem' := m7) 0 rfl ?_
  refine mS_prg rfl f7_0 (by decide) (by decide) ?_
  refine mS_genM (mem := m7) l7 (fun _ _ h => h) (fun m8 e8 l8 k8 => ?_)
  have f8_0 := k8 _ _ f7_0
  have f8_1 := k8 _ _ f7_1
  have f8_2 := k8 _ _ f7_2
  have f8_3 := k8 _ _ f7_3
  have f8_4 := k8 _ _ n7
  refine mS_steps (pc' := 39) (ls' := [.ref 245]) (st' := [.int (8 : Int32), .ref 245]) (mem' := m8) 2 rfl ?_
  refine mS_naL (a := 250) (N := 8) rfl l8 (by decide) (by decide) (by decide) (by decide) (fun m9 e9 l9 n9 k9 => ?_)
  have f9_0 := k9 _ _ f8_0
  have f9_1 := k9 _ _ f8_1
  have f9_2 := k9 _ _ f8_2
  have f9_3 := k9 _ _ f8_3
  have f9_4 := k9 _ _ f8_4
  refine mS_steps (pc' := 41) (ls' := [.ref 245]) (st' := [.ref 250, .ref 245]) (mem' := m9) 0 rfl ?_
  refine mS_prg rfl f9_0 (by decide) (by decide) ?_
  refine mS_genM (mem := m9) l9 (fun _ _ h => h) (fun m10 e10 l10 k10 => ?_)
  have f10_0 := k10 _ _ f9_0
  have f10_1 := k10 _ _ f9_1
  have f10_2 := k10 _ _ f9_2
  have f10_3 := k10 _ _ f9_3
  have f10_4 := k10 _ _ f9_4
  have f10_5 := k10 _ _ n9
  refine mS_steps (pc' := 44) (ls' := [.ref 245]) (st' := []) (mem' := m10) 0 rfl ?_
  exact mS_retv ⟨_, _, _, _, _, rfl⟩ (by subst e10 e9 e8 e7 e6 e5 e4 e3 e2 e1; rfl)
def c_X8_init (mem : mM) : mM := (m_pr 251 4 252 (m_na 0 16 252 mem))
theorem c_X8_init_sh (mem : mM) : (c_X8_init mem).1 = mem.1 ++ [(100, 16)] := by
  show _ = _
  simp only [c_X8_init, m_nw, m_na, m_pr, m_pi, m_pj, List.append_assoc, List.cons_append, List.nil_append]
  rfl
theorem c_X8_init_at {k : Nat} {mem : mM} {s : Nat × Nat} (h : mem.1[k]? = some s) : (c_X8_init mem).1[k]? = some s := by
  rw [c_X8_init_sh, List.getElem?_append_left (List.getElem?_eq_some_iff.mp h).1]; exact h
theorem c_X8_init_len {n : Nat} {mem : mM} (h : mem.1.length = n) : (c_X8_init mem).1.length = n + 1 := by
  rw [c_X8_init_sh, List.length_append, h]; rfl
set_option maxRecDepth 20000 in
theorem c_X8_init_ge {k : Nat} {mem : mM} (h : 315 ≤ k) : (c_X8_init mem).2.2.2 k = mem.2.2.2 k := ((m_pr_ge (by decide) h).trans (m_na_ge (by decide) h))
set_option maxRecDepth 20000 in
set_option maxHeartbeats 4000000 in
theorem c_X8_init_snd {fm : Value} {L : Nat} {xs : Nat → Int32} (mem : mM) (hq : mem.1[251]? = some (8, 5)) (hl : mem.1.length = 252) : mS fm L xs (fun _ : Unit => (mU, c_X8_init mem)) pg_X8_init 0 (m_entry [.ref 251] 1) [] mem (some ()) := by
  refine mS_steps (pc' := 7) (ls' := [.ref 251]) (st' := [.int (16 : Int32), .ref 251]) (mem' := mem) 4 rfl ?_
  refine mS_naL (a := 252) (N := 16) rfl hl (by decide) (by decide) (by decide) (by decide) (fun m1 e1 l1 n1 k1 => ?_)
  have f1_0 := k1 _ _ hq
  refine mS_steps (pc' := 9) (ls' := [.ref 251]) (st' := [.ref 252, .ref 251]) (mem' := m1) 0 rfl ?_
  refine mS_prg rfl f1_0 (by decide) (by decide) ?_
  refine mS_genM (mem := m1) l1 (fun _ _ h => h) (fun m2 e2 l2 k2 => ?_)
  have f2_0 := k2 _ _ f1_0
  have f2_1 := k2 _ _ n1
  refine mS_steps (pc' := 12) (ls' := [.ref 251]) (st' := []) (mem' := m2) 0 rfl ?_
  exact mS_retv ⟨_, _, _, _, _, rfl⟩ (by subst e2 e1; rfl)
def c_X4_init (mem : mM) : mM := (m_pr 254 0 255 (m_na 0 8 255 mem))
theorem c_X4_init_sh (mem : mM) : (c_X4_init mem).1 = mem.1 ++ [(100, 8)] := by
  show _ = _
  simp only [c_X4_init, m_nw, m_na, m_pr, m_pi, m_pj, List.append_assoc, List.cons_append, List.nil_append]
  rfl
theorem c_X4_init_at {k : Nat} {mem : mM} {s : Nat × Nat} (h : mem.1[k]? = some s) : (c_X4_init mem).1[k]? = some s := by
  rw [c_X4_init_sh, List.getElem?_append_left (List.getElem?_eq_some_iff.mp h).1]; exact h
theorem c_X4_init_len {n : Nat} {mem : mM} (h : mem.1.length = n) : (c_X4_init mem).1.length = n + 1 := by
  rw [c_X4_init_sh, List.length_append, h]; rfl
set_option maxRecDepth 20000 in
theorem c_X4_init_ge {k : Nat} {mem : mM} (h : 315 ≤ k) : (c_X4_init mem).2.2.2 k = mem.2.2.2 k := ((m_pr_ge (by decide) h).trans (m_na_ge (by decide) h))
set_option maxRecDepth 20000 in
set_option maxHeartbeats 4000000 in
theorem c_X4_init_snd {fm : Value} {L : Nat} {xs : Nat → Int32} (mem : mM) (hq : mem.1[254]? = some (4, 1)) (hl : mem.1.length = 255) : mS fm L xs (fun _ : Unit => (mU, c_X4_init mem)) pg_X4_init 0 (m_entry [.ref 254] 1) [] mem (some ()) := by
  refine mS_steps (pc' := 7) (ls' := [.ref 254]) (st' := [.int (8 : Int32), .ref 254]) (mem' := mem) 4 rfl ?_
  refine mS_naL (a := 255) (N := 8) rfl hl (by decide) (by decide) (by decide) (by decide) (fun m1 e1 l1 n1 k1 => ?_)
  have f1_0 := k1 _ _ hq
  refine mS_steps (pc' := 9) (ls' := [.ref 254]) (st' := [.ref 255, .ref 254]) (mem' := m1) 0 rfl ?_
  refine mS_prg rfl f1_0 (by decide) (by decide) ?_
  refine mS_genM (mem := m1) l1 (fun _ _ h => h) (fun m2 e2 l2 k2 => ?_)
  have f2_0 := k2 _ _ f1_0
  have f2_1 := k2 _ _ n1
  refine mS_steps (pc' := 12) (ls' := [.ref 254]) (st' := []) (mem' := m2) 0 rfl ?_
  exact mS_retv ⟨_, _, _, _, _, rfl⟩ (by subst e2 e1; rfl)
def c_X1_init (mem : mM) : mM := (m_pr 256 3 258 (c_X3_init 258 259 (m_nw 3 258 (m_pr 256 1 257 (m_na 0 4 257 mem)))))
theorem c_X1_init_sh (mem : mM) : (c_X1_init mem).1 = mem.1 ++ [(100, 4), (3, 7), (100, 8), (100, 8), (100, 64), (100, 64), (100, 8)] := by
  show _ = _
  simp only [c_X1_init, m_nw, m_na, m_pr, m_pi, m_pj, c_X3_init_sh, List.append_assoc, List.cons_append, List.nil_append]
  rfl
theorem c_X1_init_at {k : Nat} {mem : mM} {s : Nat × Nat} (h : mem.1[k]? = some s) : (c_X1_init mem).1[k]? = some s := by
  rw [c_X1_init_sh, List.getElem?_append_left (List.getElem?_eq_some_iff.mp h).1]; exact h
theorem c_X1_init_len {n : Nat} {mem : mM} (h : mem.1.length = n) : (c_X1_init mem).1.length = n + 7 := by
  rw [c_X1_init_sh, List.length_append, h]; rfl
set_option maxRecDepth 20000 in
theorem c_X1_init_ge {k : Nat} {mem : mM} (h : 315 ≤ k) : (c_X1_init mem).2.2.2 k = mem.2.2.2 k := ((m_pr_ge (by decide) h).trans ((c_X3_init_ge (by decide) (by decide) h).trans ((m_nw_ge (by decide) h).trans ((m_pr_ge (by decide) h).trans (m_na_ge (by decide) h)))))
set_option maxRecDepth 20000 in
set_option maxHeartbeats 4000000 in
theorem c_X1_init_snd {fm : Value} {L : Nat} {xs : Nat → Int32} (mem : mM) (hq : mem.1[256]? = some (1, 4)) (hl : mem.1.length = 257) : mS fm L xs (fun _ : Unit => (mU, c_X1_init mem)) pg_X1_init 0 (m_entry [.ref 256] 1) [] mem (some ()) := by
  refine mS_steps (pc' := 6) (ls' := [.ref 256]) (st' := [.int (4 : Int32), .ref 256]) (mem' := mem) 4 rfl ?_
  refine mS_naL (a := 257) (N := 4) rfl hl (by decide) (by decide) (by decide) (by decide) (fun m1 e1 l1 n1 k1 => ?_)
  have f1_0 := k1 _ _ hq
  refine mS_steps (pc' := 8) (ls' := [.ref 256]) (st' := [.ref 257, .ref 256]) (mem' := m1) 0 rfl ?_
  refine mS_prg rfl f1_0 (by decide) (by decide) ?_
  refine mS_genM (mem := m1) l1 (fun _ _ h => h) (fun m2 e2 l2 k2 => ?_)
  have f2_0 := k2 _ _ f1_0
  have f2_1 := k2 _ _ n1
  refine mS_steps (pc' := 12) (ls' := [.ref 256]) (st' := [.ref 256]) (mem' := m2) 1 rfl ?_
  refine mS_nwL (a := 258) rfl l2 (by decide) (fun m3 e3 l3 n3 k3 => ?_)
  have f3_0 := k3 _ _ f2_0
  have f3_1 := k3 _ _ f2_1
  refine mS_steps (pc' := 16) (ls' := [.ref 256]) (st' := [.ref 258, .ref 258, .ref 256]) (mem' := m3) 1 rfl ?_
  refine mS_call (q := ()) 3 1 [.ref 258] [.ref 258, .ref 256] rfl rfl rfl ⟨_, _, _, rfl, rfl⟩ (Nat.le_of_ble_eq_true rfl) (Nat.le_of_ble_eq_true rfl) rfl (c_X3_init_snd 258 259 m3 n3 l3 (by decide)) ?_
  refine mS_steps (pc' := 19) (ls' := [.ref 256]) (st' := [.ref 258, .ref 256]) (mem' := c_X3_init 258 259 m3) 0 rfl ?_
  refine mS_genM (mem := m3) (c_X3_init_len l3) (fun _ _ h => c_X3_init_at h) (fun m4 e4 l4 k4 => ?_)
  have f4_0 := k4 _ _ f3_0
  have f4_1 := k4 _ _ f3_1
  have f4_2 := k4 _ _ n3
  refine mS_steps (pc' := 19) (ls' := [.ref 256]) (st' := [.ref 258, .ref 256]) (mem' := m4) 0 rfl ?_
  refine mS_prg rfl f4_0 (by decide) (by decide) ?_
  refine mS_genM (mem := m4) l4 (fun _ _ h => h) (fun m5 e5 l5 k5 => ?_)
  have f5_0 := k5 _ _ f4_0
  have f5_1 := k5 _ _ f4_1
  have f5_2 := k5 _ _ f4_2
  refine mS_steps (pc' := 22) (ls' := [.ref 256]) (st' := []) (mem' := m5) 0 rfl ?_
  exact mS_retv ⟨_, _, _, _, _, rfl⟩ (by subst e5 e4 e3 e2 e1; rfl)
def c_X10_init (mem : mM) : mM := (m_pr 221 2 274 (c_X6_init 274 275 (m_nw 6 274 (m_pr 221 1 269 (c_X6_init 269 270 (m_nw 6 269 (m_pr 221 0 264 (c_X6_init 264 265 (m_nw 6 264 (m_pr 0 15 256 (c_X1_init (m_nw 1 256 (m_pr 0 14 254 (c_X4_init (m_nw 4 254 (m_pr 0 13 253 (m_na 0 16 253 (m_pr 0 12 251 (c_X8_init (m_nw 8 251 (m_pr 0 11 245 (c_X0_init (m_nw 0 245 (m_pr 0 10 240 (c_X9_init (m_nw 9 240 (m_pr 0 9 234 (c_X7_init (m_nw 7 234 (m_pr 0 7 228 (c_X3_init 228 229 (m_nw 3 228 (m_pr 0 5 222 (c_X3_init 222 223 (m_nw 3 222 (m_pr 0 3 221 (m_na 4 3 221 (m_pr 0 2 19 (c_X2_init (m_nw 2 19 (m_pr 0 1 14 (c_X6_init 14 15 (m_nw 6 14 (m_pr 0 0 1 (c_X5_init (m_nw 5 1 mem))))))))))))))))))))))))))))))))))))))))))))))
theorem c_X10_init_sh (mem : mM) : (c_X10_init mem).1 = mem.1 ++ [(5, 17), (6, 14), (100, 16), (100, 16), (100, 16), (100, 16), (102, 2000), (100, 400), (100, 400), (101, 400), (101, 8), (100, 8), (100, 8), (6, 14), (100, 16), (100, 16), (100, 16), (100, 16), (2, 3), (104, 40), (6, 14), (100, 16), (100, 16), (100, 16), (100, 16), (6, 14), (100, 16), (100, 16), (100, 16), (100, 16), (6, 14), (100, 16), (100, 16), (100, 16), (100, 16), (6, 14), (100, 16), (100, 16), (100, 16), (100, 16), (6, 14), (100, 16), (100, 16), (100, 16), (100, 16), (6, 14), (100, 16), (100, 16), (100, 16), (100, 16), (6, 14), (100, 16), (100, 16), (100, 16), (100, 16), (6, 14), (100, 16), (100, 16), (100, 16), (100, 16), (6, 14), (100, 16), (100, 16), (100, 16), (100, 16), (6, 14), (100, 16), (100, 16), (100, 16), (100, 16), (6, 14), (100, 16), (100, 16), (100, 16), (100, 16), (6, 14), (100, 16), (100, 16), (100, 16), (100, 16), (6, 14), (100, 16), (100, 16), (100, 16), (100, 16), (6, 14), (100, 16), (100, 16), (100, 16), (100, 16), (6, 14), (100, 16), (100, 16), (100, 16), (100, 16), (6, 14), (100, 16), (100, 16), (100, 16), (100, 16), (6, 14), (100, 16), (100, 16), (100, 16), (100, 16), (6, 14), (100, 16), (100, 16), (100, 16), (100, 16), (6, 14), (100, 16), (100, 16), (100, 16), (100, 16), (6, 14), (100, 16), (100, 16), (100, 16), (100, 16), (6, 14), (100, 16), (100, 16), (100, 16), (100, 16), (6, 14), (100, 16), (100, 16), (100, 16), (100, 16), (6, 14), (100, 16), (100, 16), (100, 16), (100, 16), (6, 14), (100, 16), (100, 16), (100, 16), (100, 16), (6, 14), (100, 16), (100, 16), (100, 16), (100, 16), (6, 14), (100, 16), (100, 16), (100, 16), (100, 16), (6, 14), (100, 16), (100, 16), (100, 16), (100, 16), (6, 14), (100, 16), (100, 16), (100, 16), (100, 16), (6, 14), (100, 16), (100, 16), (100, 16), (100, 16), (6, 14), (100, 16), (100, 16), (100, 16), (100, 16), (6, 14), (100, 16), (100, 16), (100, 16), (100, 16), (6, 14), (100, 16), (100, 16), (100, 16), (100, 16), (6, 14), (100, 16), (100, 16), (100, 16), (100, 16), (6, 14), (100, 16), (100, 16), (100, 16), (100, 16), (6, 14), (100, 16), (100, 16), (100, 16), (100, 16), (6, 14), (100, 16), (100, 16), (100, 16), (100, 16), (6, 14), (100, 16), (100, 16), (100, 16), (100, 16), (6, 14), (100, 16), (100, 16), (100, 16), (100, 16), (6, 14), (100, 16), (100, 16), (100, 16), (100, 16), (6, 14), (100, 16), (100, 16), (100, 16), (100, 16), (104, 3), (3, 7), (100, 8), (100, 8), (100, 64), (100, 64), (100, 8), (3, 7), (100, 8), (100, 8), (100, 64), (100, 64), (100, 8), (7, 7), (100, 8), (100, 64), (100, 64), (100, 128), (100, 128), (9, 5), (100, 8), (100, 8), (100, 8), (100, 8), (0, 9), (100, 48), (100, 17), (100, 8), (100, 8), (100, 8), (8, 5), (100, 16), (100, 16), (4, 1), (100, 8), (1, 4), (100, 4), (3, 7), (100, 8), (100, 8), (100, 64), (100, 64), (100, 8), (6, 14), (100, 16), (100, 16), (100, 16), (100, 16), (6, 14), (100, 16), (100, 16), (100, 16), (100, 16), (6, 14), (100, 16), (100, 16), (100, 16), (100, 16)] := by
  show _ = _
  simp only [c_X10_init, m_nw, m_na, m_pr, m_pi, m_pj, c_X0_init_sh, c_X1_init_sh, c_X2_init_sh, c_X3_init_sh, c_X4_init_sh, c_X5_init_sh, c_X6_init_sh, c_X7_init_sh, c_X8_init_sh, c_X9_init_sh, List.append_assoc, List.cons_append, List.nil_append]
  rfl
theorem c_X10_init_at {k : Nat} {mem : mM} {s : Nat × Nat} (h : mem.1[k]? = some s) : (c_X10_init mem).1[k]? = some s := by
  rw [c_X10_init_sh, List.getElem?_append_left (List.getElem?_eq_some_iff.mp h).1]; exact h
theorem c_X10_init_len {n : Nat} {mem : mM} (h : mem.1.length = n) : (c_X10_init mem).1.length = n + 278 := by
  rw [c_X10_init_sh, List.length_append, h]; rfl
set_option maxRecDepth 20000 in
theorem c_X10_init_ge {k : Nat} {mem : mM} (h : 315 ≤ k) : (c_X10_init mem).2.2.2 k = mem.2.2.2 k := ((m_pr_ge (by decide) h).trans ((c_X6_init_ge (by decide) (by decide) h).trans ((m_nw_ge (by decide) h).trans ((m_pr_ge (by decide) h).trans ((c_X6_init_ge (by decide) (by decide) h).trans ((m_nw_ge (by decide) h).trans ((m_pr_ge (by decide) h).trans ((c_X6_init_ge (by decide) (by decide) h).trans ((m_nw_ge (by decide) h).trans ((m_pr_ge (by decide) h).trans ((c_X1_init_ge h).trans ((m_nw_ge (by decide) h).trans ((m_pr_ge (by decide) h).trans ((c_X4_init_ge h).trans ((m_nw_ge (by decide) h).trans ((m_pr_ge (by decide) h).trans ((m_na_ge (by decide) h).trans ((m_pr_ge (by decide) h).trans ((c_X8_init_ge h).trans ((m_nw_ge (by decide) h).trans ((m_pr_ge (by decide) h).trans ((c_X0_init_ge h).trans ((m_nw_ge (by decide) h).trans ((m_pr_ge (by decide) h).trans ((c_X9_init_ge h).trans ((m_nw_ge (by decide) h).trans ((m_pr_ge (by decide) h).trans ((c_X7_init_ge h).trans ((m_nw_ge (by decide) h).trans ((m_pr_ge (by decide) h).trans ((c_X3_init_ge (by decide) (by decide) h).trans ((m_nw_ge (by decide) h).trans ((m_pr_ge (by decide) h).trans ((c_X3_init_ge (by decide) (by decide) h).trans ((m_nw_ge (by decide) h).trans ((m_pr_ge (by decide) h).trans ((m_na_ge (by decide) h).trans ((m_pr_ge (by decide) h).trans ((c_X2_init_ge h).trans ((m_nw_ge (by decide) h).trans ((m_pr_ge (by decide) h).trans ((c_X6_init_ge (by decide) (by decide) h).trans ((m_nw_ge (by decide) h).trans ((m_pr_ge (by decide) h).trans ((c_X5_init_ge h).trans (m_nw_ge (by decide) h))))))))))))))))))))))))))))))))))))))))))))))
set_option maxRecDepth 20000 in
set_option maxHeartbeats 4000000 in
theorem c_X10_init_snd {fm : Value} {L : Nat} {xs : Nat → Int32} (mem : mM) (hq : mem.1[0]? = some (10, 16)) (hl : mem.1.length = 1) : mS fm L xs (fun _ : Unit => (mU, c_X10_init mem)) pg_X10_init 0 (m_entry [.ref 0] 2) [] mem (some ()) := by
  refine mS_steps (pc' := 5) (ls' := [.ref 0, mU]) (st' := [.ref 0]) (mem' := mem) 3 rfl ?_
  refine mS_nwL (a := 1) rfl hl (by decide) (fun m1 e1 l1 n1 k1 => ?_)
  have f1_0 := k1 _ _ hq
  refine mS_steps (pc' := 9) (ls' := [.ref 0, mU]) (st' := [.ref 1, .ref 1, .ref 0]) (mem' := m1) 1 rfl ?_
  refine mS_call (q := ()) 1 1 [.ref 1] [.ref 1, .ref 0] rfl rfl rfl ⟨_, _, _, rfl, rfl⟩ (Nat.le_of_ble_eq_true rfl) (Nat.le_of_ble_eq_true rfl) rfl (c_X5_init_snd m1 n1 l1) ?_
  refine mS_steps (pc' := 12) (ls' := [.ref 0, mU]) (st' := [.ref 1, .ref 0]) (mem' := c_X5_init m1) 0 rfl ?_
  refine mS_genM (mem := m1) (c_X5_init_len l1) (fun _ _ h => c_X5_init_at h) (fun m2 e2 l2 k2 => ?_)
  have f2_0 := k2 _ _ f1_0
  have f2_1 := k2 _ _ n1
  refine mS_steps (pc' := 12) (ls' := [.ref 0, mU]) (st' := [.ref 1, .ref 0]) (mem' := m2) 0 rfl ?_
  refine mS_prg rfl f2_0 (by decide) (by decide) ?_
  refine mS_genM (mem := m2) l2 (fun _ _ h => h) (fun m3 e3 l3 k3 => ?_)
  have f3_0 := k3 _ _ f2_0
  have f3_1 := k3 _ _ f2_1
  refine mS_steps (pc' := 16) (ls' := [.ref 0, mU]) (st' := [.ref 0]) (mem' := m3) 1 rfl ?_
  refine mS_nwL (a := 14) rfl l3 (by decide) (fun m4 e4 l4 n4 k4 => ?_)
  have f4_0 := k4 _ _ f3_0
  have f4_1 := k4 _ _ f3_1
  refine mS_steps (pc' := 20) (ls' := [.ref 0, mU]) (st' := [.ref 14, .ref 14, .ref 0]) (mem' := m4) 1 rfl ?_
  refine mS_call (q := ()) 0 1 [.ref 14] [.ref 14, .ref 0] rfl rfl rfl ⟨_, _, _, rfl, rfl⟩ (Nat.le_of_ble_eq_true rfl) (Nat.le_of_ble_eq_true rfl) rfl (c_X6_init_snd 14 15 m4 n4 l4 (by decide)) ?_
  refine mS_steps (pc' := 23) (ls' := [.ref 0, mU]) (st' := [.ref 14, .ref 0]) (mem' := c_X6_init 14 15 m4) 0 rfl ?_
  refine mS_genM (mem := m4) (c_X6_init_len l4) (fun _ _ h => c_X6_init_at h) (fun m5 e5 l5 k5 => ?_)
  have f5_0 := k5 _ _ f4_0
  have f5_1 := k5 _ _ f4_1
  have f5_2 := k5 _ _ n4
  refine mS_steps (pc' := 23) (ls' := [.ref 0, mU]) (st' := [.ref 14, .ref 0]) (mem' := m5) 0 rfl ?_
  refine mS_prg rfl f5_0 (by decide) (by decide) ?_
  refine mS_genM (mem := m5) l5 (fun _ _ h => h) (fun m6 e6 l6 k6 => ?_)
  have f6_0 := k6 _ _ f5_0
  have f6_1 := k6 _ _ f5_1
  have f6_2 := k6 _ _ f5_2
  refine mS_steps (pc' := 27) (ls' := [.ref 0, mU]) (st' := [.ref 0]) (mem' := m6) 1 rfl ?_
  refine mS_nwL (a := 19) rfl l6 (by decide) (fun m7 e7 l7 n7 k7 => ?_)
  have f7_0 := k7 _ _ f6_0
  have f7_1 := k7 _ _ f6_1
  have f7_2 := k7 _ _ f6_2
  refine mS_steps (pc' := 31) (ls' := [.ref 0, mU]) (st' := [.ref 19, .ref 19, .ref 0]) (mem' := m7) 1 rfl ?_
  refine mS_call (q := ()) 2 1 [.ref 19] [.ref 19, .ref 0] rfl rfl rfl ⟨_, _, _, rfl, rfl⟩ (Nat.le_of_ble_eq_true rfl) (Nat.le_of_ble_eq_true rfl) rfl (c_X2_init_snd m7 n7 l7) ?_
  refine mS_steps (pc' := 34) (ls' := [.ref 0, mU]) (st' := [.ref 19, .ref 0]) (mem' := c_X2_init m7) 0 rfl ?_
  refine mS_genM (mem := m7) (c_X2_init_len l7) (fun _ _ h => c_X2_init_at h) (fun m8 e8 l8 k8 => ?_)
  have f8_0 := k8 _ _ f7_0
  have f8_1 := k8 _ _ f7_1
  have f8_2 := k8 _ _ f7_2
  have f8_3 := k8 _ _ n7
  refine mS_steps (pc' := 34) (ls' := [.ref 0, mU]) (st' := [.ref 19, .ref 0]) (mem' := m8) 0 rfl ?_
  refine mS_prg rfl f8_0 (by decide) (by decide) ?_
  refine mS_genM (mem := m8) l8 (fun _ _ h => h) (fun m9 e9 l9 k9 => ?_)
  have f9_0 := k9 _ _ f8_0
  have f9_1 := k9 _ _ f8_1
  have f9_2 := k9 _ _ f8_2
  have f9_3 := k9 _ _ f8_3
  refine mS_steps (pc' := 39) (ls' := [.ref 0, mU]) (st' := [.int (3 : Int32), .ref 0]) (mem' := m9) 2 rfl ?_
  refine mS_naL (a := 221) (N := 3) rfl l9 (by decide) (by decide) (by decide) (by decide) (fun m10 e10 l10 n10 k10 => ?_)
  have f10_0 := k10 _ _ f9_0
  have f10_1 := k10 _ _ f9_1
  have f10_2 := k10 _ _ f9_2
  have f10_3 := k10 _ _ f9_3
  refine mS_steps (pc' := 42) (ls' := [.ref 0, mU]) (st' := [.ref 221, .ref 0]) (mem' := m10) 0 rfl ?_
  refine mS_prg rfl f10_0 (by decide) (by decide) ?_
  refine mS_genM (mem := m10) l10 (fun _ _ h => h) (fun m11 e11 l11 k11 => ?_)
  have f11_0 := k11 _ _ f10_0
  have f11_1 := k11 _ _ f10_1
  have f11_2 := k11 _ _ f10_2
  have f11_3 := k11 _ _ f10_3
  have f11_4 := k11 _ _ n10
  refine mS_steps (pc' := 46) (ls' := [.ref 0, mU]) (st' := [.ref 0]) (mem' := m11) 1 rfl ?_
  refine mS_nwL (a := 222) rfl l11 (by decide) (fun m12 e12 l12 n12 k12 => ?_)
  have f12_0 := k12 _ _ f11_0
  have f12_1 := k12 _ _ f11_1
  have f12_2 := k12 _ _ f11_2
  have f12_3 := k12 _ _ f11_3
  have f12_4 := k12 _ _ f11_4
  refine mS_steps (pc' := 50) (ls' := [.ref 0, mU]) (st' := [.ref 222, .ref 222, .ref 0]) (mem' := m12) 1 rfl ?_
  refine mS_call (q := ()) 3 1 [.ref 222] [.ref 222, .ref 0] rfl rfl rfl ⟨_, _, _, rfl, rfl⟩ (Nat.le_of_ble_eq_true rfl) (Nat.le_of_ble_eq_true rfl) rfl (c_X3_init_snd 222 223 m12 n12 l12 (by decide)) ?_
  refine mS_steps (pc' := 53) (ls' := [.ref 0, mU]) (st' := [.ref 222, .ref 0]) (mem' := c_X3_init 222 223 m12) 0 rfl ?_
  refine mS_genM (mem := m12) (c_X3_init_len l12) (fun _ _ h => c_X3_init_at h) (fun m13 e13 l13 k13 => ?_)
  have f13_0 := k13 _ _ f12_0
  have f13_1 := k13 _ _ f12_1
  have f13_2 := k13 _ _ f12_2
  have f13_3 := k13 _ _ f12_3
  have f13_4 := k13 _ _ f12_4
  have f13_5 := k13 _ _ n12
  refine mS_steps (pc' := 53) (ls' := [.ref 0, mU]) (st' := [.ref 222, .ref 0]) (mem' := m13) 0 rfl ?_
  refine mS_prg rfl f13_0 (by decide) (by decide) ?_
  refine mS_genM (mem := m13) l13 (fun _ _ h => h) (fun m14 e14 l14 k14 => ?_)
  have f14_0 := k14 _ _ f13_0
  have f14_1 := k14 _ _ f13_1
  have f14_2 := k14 _ _ f13_2
  have f14_3 := k14 _ _ f13_3
  have f14_4 := k14 _ _ f13_4
  have f14_5 := k14 _ _ f13_5
  refine mS_steps (pc' := 57) (ls' := [.ref 0, mU]) (st' := [.ref 0]) (mem' := m14) 1 rfl ?_
  refine mS_nwL (a := 228) rfl l14 (by decide) (fun m15 e15 l15 n15 k15 => ?_)
  have f15_0 := k15 _ _ f14_0
  have f15_1 := k15 _ _ f14_1
  have f15_2 := k15 _ _ f14_2
  have f15_3 := k15 _ _ f14_3
  have f15_4 := k15 _ _ f14_4
  have f15_5 := k15 _ _ f14_5
  refine mS_steps (pc' := 61) (ls' := [.ref 0, mU]) (st' := [.ref 228, .ref 228, .ref 0]) (mem' := m15) 1 rfl ?_
  refine mS_call (q := ()) 3 1 [.ref 228] [.ref 228, .ref 0] rfl rfl rfl ⟨_, _, _, rfl, rfl⟩ (Nat.le_of_ble_eq_true rfl) (Nat.le_of_ble_eq_true rfl) rfl (c_X3_init_snd 228 229 m15 n15 l15 (by decide)) ?_
  refine mS_steps (pc' := 64) (ls' := [.ref 0, mU]) (st' := [.ref 228, .ref 0]) (mem' := c_X3_init 228 229 m15) 0 rfl ?_
  refine mS_genM (mem := m15) (c_X3_init_len l15) (fun _ _ h => c_X3_init_at h) (fun m16 e16 l16 k16 => ?_)
  have f16_0 := k16 _ _ f15_0
  have f16_1 := k16 _ _ f15_1
  have f16_2 := k16 _ _ f15_2
  have f16_3 := k16 _ _ f15_3
  have f16_4 := k16 _ _ f15_4
  have f16_5 := k16 _ _ f15_5
  have f16_6 := k16 _ _ n15
  refine mS_steps (pc' := 64) (ls' := [.ref 0, mU]) (st' := [.ref 228, .ref 0]) (mem' := m16) 0 rfl ?_
  refine mS_prg rfl f16_0 (by decide) (by decide) ?_
  refine mS_genM (mem := m16) l16 (fun _ _ h => h) (fun m17 e17 l17 k17 => ?_)
  have f17_0 := k17 _ _ f16_0
  have f17_1 := k17 _ _ f16_1
  have f17_2 := k17 _ _ f16_2
  have f17_3 := k17 _ _ f16_3
  have f17_4 := k17 _ _ f16_4
  have f17_5 := k17 _ _ f16_5
  have f17_6 := k17 _ _ f16_6
  refine mS_steps (pc' := 68) (ls' := [.ref 0, mU]) (st' := [.ref 0]) (mem' := m17) 1 rfl ?_
  refine mS_nwL (a := 234) rfl l17 (by decide) (fun m18 e18 l18 n18 k18 => ?_)
  have f18_0 := k18 _ _ f17_0
  have f18_1 := k18 _ _ f17_1
  have f18_2 := k18 _ _ f17_2
  have f18_3 := k18 _ _ f17_3
  have f18_4 := k18 _ _ f17_4
  have f18_5 := k18 _ _ f17_5
  have f18_6 := k18 _ _ f17_6
  refine mS_steps (pc' := 72) (ls' := [.ref 0, mU]) (st' := [.ref 234, .ref 234, .ref 0]) (mem' := m18) 1 rfl ?_
  refine mS_call (q := ()) 4 1 [.ref 234] [.ref 234, .ref 0] rfl rfl rfl ⟨_, _, _, rfl, rfl⟩ (Nat.le_of_ble_eq_true rfl) (Nat.le_of_ble_eq_true rfl) rfl (c_X7_init_snd m18 n18 l18) ?_
  refine mS_steps (pc' := 75) (ls' := [.ref 0, mU]) (st' := [.ref 234, .ref 0]) (mem' := c_X7_init m18) 0 rfl ?_
  refine mS_genM (mem := m18) (c_X7_init_len l18) (fun _ _ h => c_X7_init_at h) (fun m19 e19 l19 k19 => ?_)
  have f19_0 := k19 _ _ f18_0
  have f19_1 := k19 _ _ f18_1
  have f19_2 := k19 _ _ f18_2
  have f19_3 := k19 _ _ f18_3
  have f19_4 := k19 _ _ f18_4
  have f19_5 := k19 _ _ f18_5
  have f19_6 := k19 _ _ f18_6
  have f19_7 := k19 _ _ n18
  refine mS_steps (pc' := 75) (ls' := [.ref 0, mU]) (st' := [.ref 234, .ref 0]) (mem' := m19) 0 rfl ?_
  refine mS_prg rfl f19_0 (by decide) (by decide) ?_
  refine mS_genM (mem := m19) l19 (fun _ _ h => h) (fun m20 e20 l20 k20 => ?_)
  have f20_0 := k20 _ _ f19_0
  have f20_1 := k20 _ _ f19_1
  have f20_2 := k20 _ _ f19_2
  have f20_3 := k20 _ _ f19_3
  have f20_4 := k20 _ _ f19_4
  have f20_5 := k20 _ _ f19_5
  have f20_6 := k20 _ _ f19_6
  have f20_7 := k20 _ _ f19_7
  refine mS_steps (pc' := 79) (ls' := [.ref 0, mU]) (st' := [.ref 0]) (mem' := m20) 1 rfl ?_
  refine mS_nwL (a := 240) rfl l20 (by decide) (fun m21 e21 l21 n21 k21 => ?_)
  have f21_0 := k21 _ _ f20_0
  have f21_1 := k21 _ _ f20_1
  have f21_2 := k21 _ _ f20_2
  have f21_3 := k21 _ _ f20_3
  have f21_4 := k21 _ _ f20_4
  have f21_5 := k21 _ _ f20_5
  have f21_6 := k21 _ _ f20_6
  have f21_7 := k21 _ _ f20_7
  refine mS_steps (pc' := 83) (ls' := [.ref 0, mU]) (st' := [.ref 240, .ref 240, .ref 0]) (mem' := m21) 1 rfl ?_
  refine mS_call (q := ()) 5 1 [.ref 240] [.ref 240, .ref 0] rfl rfl rfl ⟨_, _, _, rfl, rfl⟩ (Nat.le_of_ble_eq_true rfl) (Nat.le_of_ble_eq_true rfl) rfl (c_X9_init_snd m21 n21 l21) ?_
  refine mS_steps (pc' := 86) (ls' := [.ref 0, mU]) (st' := [.ref 240, .ref 0]) (mem' := c_X9_init m21) 0 rfl ?_
  refine mS_genM (mem := m21) (c_X9_init_len l21) (fun _ _ h => c_X9_init_at h) (fun m22 e22 l22 k22 => ?_)
  have f22_0 := k22 _ _ f21_0
  have f22_1 := k22 _ _ f21_1
  have f22_2 := k22 _ _ f21_2
  have f22_3 := k22 _ _ f21_3
  have f22_4 := k22 _ _ f21_4
  have f22_5 := k22 _ _ f21_5
  have f22_6 := k22 _ _ f21_6
  have f22_7 := k22 _ _ f21_7
  have f22_8 := k22 _ _ n21
  refine mS_steps (pc' := 86) (ls' := [.ref 0, mU]) (st' := [.ref 240, .ref 0]) (mem' := m22) 0 rfl ?_
  refine mS_prg rfl f22_0 (by decide) (by decide) ?_
  refine mS_genM (mem := m22) l22 (fun _ _ h => h) (fun m23 e23 l23 k23 => ?_)
  have f23_0 := k23 _ _ f22_0
  have f23_1 := k23 _ _ f22_1
  have f23_2 := k23 _ _ f22_2
  have f23_3 := k23 _ _ f22_3
  have f23_4 := k23 _ _ f22_4
  have f23_5 := k23 _ _ f22_5
  have f23_6 := k23 _ _ f22_6
  have f23_7 := k23 _ _ f22_7
  have f23_8 := k23 _ _ f22_8
  refine mS_steps (pc' := 90) (ls' := [.ref 0, mU]) (st' := [.ref 0]) (mem' := m23) 1 rfl ?_
  refine mS_nwL (a := 245) rfl l23 (by decide) (fun m24 e24 l24 n24 k24 => ?_)
  have f24_0 := k24 _ _ f23_0
  have f24_1 := k24 _ _ f23_1
  have f24_2 := k24 _ _ f23_2
  have f24_3 := k24 _ _ f23_3
  have f24_4 := k24 _ _ f23_4
  have f24_5 := k24 _ _ f23_5
  have f24_6 := k24 _ _ f23_6
  have f24_7 := k24 _ _ f23_7
  have f24_8 := k24 _ _ f23_8
  refine mS_steps (pc' := 94) (ls' := [.ref 0, mU]) (st' := [.ref 245, .ref 245, .ref 0]) (mem' := m24) 1 rfl ?_
  refine mS_call (q := ()) 6 1 [.ref 245] [.ref 245, .ref 0] rfl rfl rfl ⟨_, _, _, rfl, rfl⟩ (Nat.le_of_ble_eq_true rfl) (Nat.le_of_ble_eq_true rfl) rfl (c_X0_init_snd m24 n24 l24) ?_
  refine mS_steps (pc' := 97) (ls' := [.ref 0, mU]) (st' := [.ref 245, .ref 0]) (mem' := c_X0_init m24) 0 rfl ?_
  refine mS_genM (mem := m24) (c_X0_init_len l24) (fun _ _ h => c_X0_init_at h) (fun m25 e25 l25 k25 => ?_)
  have f25_0 := k25 _ _ f24_0
  have f25_1 := k25 _ _ f24_1
  have f25_2 := k25 _ _ f24_2
  have f25_3 := k25 _ _ f24_3
  have f25_4 := k25 _ _ f24_4
  have f25_5 := k25 _ _ f24_5
  have f25_6 := k25 _ _ f24_6
  have f25_7 := k25 _ _ f24_7
  have f25_8 := k25 _ _ f24_8
  have f25_9 := k25 _ _ n24
  refine mS_steps (pc' := 97) (ls' := [.ref 0, mU]) (st' := [.ref 245, .ref 0]) (mem' := m25) 0 rfl ?_
  refine mS_prg rfl f25_0 (by decide) (by decide) ?_
  refine mS_genM (mem := m25) l25 (fun _ _ h => h) (fun m26 e26 l26 k26 => ?_)
  have f26_0 := k26 _ _ f25_0
  have f26_1 := k26 _ _ f25_1
  have f26_2 := k26 _ _ f25_2
  have f26_3 := k26 _ _ f25_3
  have f26_4 := k26 _ _ f25_4
  have f26_5 := k26 _ _ f25_5
  have f26_6 := k26 _ _ f25_6
  have f26_7 := k26 _ _ f25_7
  have f26_8 := k26 _ _ f25_8
  have f26_9 := k26 _ _ f25_9
  refine mS_steps (pc' := 101) (ls' := [.ref 0, mU]) (st' := [.ref 0]) (mem' := m26) 1 rfl ?_
  refine mS_nwL (a := 251) rfl l26 (by decide) (fun m27 e27 l27 n27 k27 => ?_)
  have f27_0 := k27 _ _ f26_0
  have f27_1 := k27 _ _ f26_1
  have f27_2 := k27 _ _ f26_2
  have f27_3 := k27 _ _ f26_3
  have f27_4 := k27 _ _ f26_4
  have f27_5 := k27 _ _ f26_5
  have f27_6 := k27 _ _ f26_6
  have f27_7 := k27 _ _ f26_7
  have f27_8 := k27 _ _ f26_8
  have f27_9 := k27 _ _ f26_9
  refine mS_steps (pc' := 105) (ls' := [.ref 0, mU]) (st' := [.ref 251, .ref 251, .ref 0]) (mem' := m27) 1 rfl ?_
  refine mS_call (q := ()) 7 1 [.ref 251] [.ref 251, .ref 0] rfl rfl rfl ⟨_, _, _, rfl, rfl⟩ (Nat.le_of_ble_eq_true rfl) (Nat.le_of_ble_eq_true rfl) rfl (c_X8_init_snd m27 n27 l27) ?_
  refine mS_steps (pc' := 108) (ls' := [.ref 0, mU]) (st' := [.ref 251, .ref 0]) (mem' := c_X8_init m27) 0 rfl ?_
  refine mS_genM (mem := m27) (c_X8_init_len l27) (fun _ _ h => c_X8_init_at h) (fun m28 e28 l28 k28 => ?_)
  have f28_0 := k28 _ _ f27_0
  have f28_1 := k28 _ _ f27_1
  have f28_2 := k28 _ _ f27_2
  have f28_3 := k28 _ _ f27_3
  have f28_4 := k28 _ _ f27_4
  have f28_5 := k28 _ _ f27_5
  have f28_6 := k28 _ _ f27_6
  have f28_7 := k28 _ _ f27_7
  have f28_8 := k28 _ _ f27_8
  have f28_9 := k28 _ _ f27_9
  have f28_10 := k28 _ _ n27
  refine mS_steps (pc' := 108) (ls' := [.ref 0, mU]) (st' := [.ref 251, .ref 0]) (mem' := m28) 0 rfl ?_
  refine mS_prg rfl f28_0 (by decide) (by decide) ?_
  refine mS_genM (mem := m28) l28 (fun _ _ h => h) (fun m29 e29 l29 k29 => ?_)
  have f29_0 := k29 _ _ f28_0
  have f29_1 := k29 _ _ f28_1
  have f29_2 := k29 _ _ f28_2
  have f29_3 := k29 _ _ f28_3
  have f29_4 := k29 _ _ f28_4
  have f29_5 := k29 _ _ f28_5
  have f29_6 := k29 _ _ f28_6
  have f29_7 := k29 _ _ f28_7
  have f29_8 := k29 _ _ f28_8
  have f29_9 := k29 _ _ f28_9
  have f29_10 := k29 _ _ f28_10
  refine mS_steps (pc' := 114) (ls' := [.ref 0, mU]) (st' := [.int (16 : Int32), .ref 0]) (mem' := m29) 2 rfl ?_
  refine mS_naL (a := 253) (N := 16) rfl l29 (by decide) (by decide) (by decide) (by decide) (fun m30 e30 l30 n30 k30 => ?_)
  have f30_0 := k30 _ _ f29_0
  have f30_1 := k30 _ _ f29_1
  have f30_2 := k30 _ _ f29_2
  have f30_3 := k30 _ _ f29_3
  have f30_4 := k30 _ _ f29_4
  have f30_5 := k30 _ _ f29_5
  have f30_6 := k30 _ _ f29_6
  have f30_7 := k30 _ _ f29_7
  have f30_8 := k30 _ _ f29_8
  have f30_9 := k30 _ _ f29_9
  have f30_10 := k30 _ _ f29_10
  refine mS_steps (pc' := 116) (ls' := [.ref 0, mU]) (st' := [.ref 253, .ref 0]) (mem' := m30) 0 rfl ?_
  refine mS_prg rfl f30_0 (by decide) (by decide) ?_
  refine mS_genM (mem := m30) l30 (fun _ _ h => h) (fun m31 e31 l31 k31 => ?_)
  have f31_0 := k31 _ _ f30_0
  have f31_1 := k31 _ _ f30_1
  have f31_2 := k31 _ _ f30_2
  have f31_3 := k31 _ _ f30_3
  have f31_4 := k31 _ _ f30_4
  have f31_5 := k31 _ _ f30_5
  have f31_6 := k31 _ _ f30_6
  have f31_7 := k31 _ _ f30_7
  have f31_8 := k31 _ _ f30_8
  have f31_9 := k31 _ _ f30_9
  have f31_10 := k31 _ _ f30_10
  have f31_11 := k31 _ _ n30
  refine mS_steps (pc' := 120) (ls' := [.ref 0, mU]) (st' := [.ref 0]) (mem' := m31) 1 rfl ?_
  refine mS_nwL (a := 254) rfl l31 (by decide) (fun m32 e32 l32 n32 k32 => ?_)
  have f32_0 := k32 _ _ f31_0
  have f32_1 := k32 _ _ f31_1
  have f32_2 := k32 _ _ f31_2
  have f32_3 := k32 _ _ f31_3
  have f32_4 := k32 _ _ f31_4
  have f32_5 := k32 _ _ f31_5
  have f32_6 := k32 _ _ f31_6
  have f32_7 := k32 _ _ f31_7
  have f32_8 := k32 _ _ f31_8
  have f32_9 := k32 _ _ f31_9
  have f32_10 := k32 _ _ f31_10
  have f32_11 := k32 _ _ f31_11
  refine mS_steps (pc' := 124) (ls' := [.ref 0, mU]) (st' := [.ref 254, .ref 254, .ref 0]) (mem' := m32) 1 rfl ?_
  refine mS_call (q := ()) 8 1 [.ref 254] [.ref 254, .ref 0] rfl rfl rfl ⟨_, _, _, rfl, rfl⟩ (Nat.le_of_ble_eq_true rfl) (Nat.le_of_ble_eq_true rfl) rfl (c_X4_init_snd m32 n32 l32) ?_
  refine mS_steps (pc' := 127) (ls' := [.ref 0, mU]) (st' := [.ref 254, .ref 0]) (mem' := c_X4_init m32) 0 rfl ?_
  refine mS_genM (mem := m32) (c_X4_init_len l32) (fun _ _ h => c_X4_init_at h) (fun m33 e33 l33 k33 => ?_)
  have f33_0 := k33 _ _ f32_0
  have f33_1 := k33 _ _ f32_1
  have f33_2 := k33 _ _ f32_2
  have f33_3 := k33 _ _ f32_3
  have f33_4 := k33 _ _ f32_4
  have f33_5 := k33 _ _ f32_5
  have f33_6 := k33 _ _ f32_6
  have f33_7 := k33 _ _ f32_7
  have f33_8 := k33 _ _ f32_8
  have f33_9 := k33 _ _ f32_9
  have f33_10 := k33 _ _ f32_10
  have f33_11 := k33 _ _ f32_11
  have f33_12 := k33 _ _ n32
  refine mS_steps (pc' := 127) (ls' := [.ref 0, mU]) (st' := [.ref 254, .ref 0]) (mem' := m33) 0 rfl ?_
  refine mS_prg rfl f33_0 (by decide) (by decide) ?_
  refine mS_genM (mem := m33) l33 (fun _ _ h => h) (fun m34 e34 l34 k34 => ?_)
  have f34_0 := k34 _ _ f33_0
  have f34_1 := k34 _ _ f33_1
  have f34_2 := k34 _ _ f33_2
  have f34_3 := k34 _ _ f33_3
  have f34_4 := k34 _ _ f33_4
  have f34_5 := k34 _ _ f33_5
  have f34_6 := k34 _ _ f33_6
  have f34_7 := k34 _ _ f33_7
  have f34_8 := k34 _ _ f33_8
  have f34_9 := k34 _ _ f33_9
  have f34_10 := k34 _ _ f33_10
  have f34_11 := k34 _ _ f33_11
  have f34_12 := k34 _ _ f33_12
  refine mS_steps (pc' := 131) (ls' := [.ref 0, mU]) (st' := [.ref 0]) (mem' := m34) 1 rfl ?_
  refine mS_nwL (a := 256) rfl l34 (by decide) (fun m35 e35 l35 n35 k35 => ?_)
  have f35_0 := k35 _ _ f34_0
  have f35_1 := k35 _ _ f34_1
  have f35_2 := k35 _ _ f34_2
  have f35_3 := k35 _ _ f34_3
  have f35_4 := k35 _ _ f34_4
  have f35_5 := k35 _ _ f34_5
  have f35_6 := k35 _ _ f34_6
  have f35_7 := k35 _ _ f34_7
  have f35_8 := k35 _ _ f34_8
  have f35_9 := k35 _ _ f34_9
  have f35_10 := k35 _ _ f34_10
  have f35_11 := k35 _ _ f34_11
  have f35_12 := k35 _ _ f34_12
  refine mS_steps (pc' := 135) (ls' := [.ref 0, mU]) (st' := [.ref 256, .ref 256, .ref 0]) (mem' := m35) 1 rfl ?_
  refine mS_call (q := ()) 9 1 [.ref 256] [.ref 256, .ref 0] rfl rfl rfl ⟨_, _, _, rfl, rfl⟩ (Nat.le_of_ble_eq_true rfl) (Nat.le_of_ble_eq_true rfl) rfl (c_X1_init_snd m35 n35 l35) ?_
  refine mS_steps (pc' := 138) (ls' := [.ref 0, mU]) (st' := [.ref 256, .ref 0]) (mem' := c_X1_init m35) 0 rfl ?_
  refine mS_genM (mem := m35) (c_X1_init_len l35) (fun _ _ h => c_X1_init_at h) (fun m36 e36 l36 k36 => ?_)
  have f36_0 := k36 _ _ f35_0
  have f36_1 := k36 _ _ f35_1
  have f36_2 := k36 _ _ f35_2
  have f36_3 := k36 _ _ f35_3
  have f36_4 := k36 _ _ f35_4
  have f36_5 := k36 _ _ f35_5
  have f36_6 := k36 _ _ f35_6
  have f36_7 := k36 _ _ f35_7
  have f36_8 := k36 _ _ f35_8
  have f36_9 := k36 _ _ f35_9
  have f36_10 := k36 _ _ f35_10
  have f36_11 := k36 _ _ f35_11
  have f36_12 := k36 _ _ f35_12
  have f36_13 := k36 _ _ n35
  refine mS_steps (pc' := 138) (ls' := [.ref 0, mU]) (st' := [.ref 256, .ref 0]) (mem' := m36) 0 rfl ?_
  refine mS_prg rfl f36_0 (by decide) (by decide) ?_
  refine mS_genM (mem := m36) l36 (fun _ _ h => h) (fun m37 e37 l37 k37 => ?_)
  have f37_0 := k37 _ _ f36_0
  have f37_1 := k37 _ _ f36_1
  have f37_2 := k37 _ _ f36_2
  have f37_3 := k37 _ _ f36_3
  have f37_4 := k37 _ _ f36_4
  have f37_5 := k37 _ _ f36_5
  have f37_6 := k37 _ _ f36_6
  have f37_7 := k37 _ _ f36_7
  have f37_8 := k37 _ _ f36_8
  have f37_9 := k37 _ _ f36_9
  have f37_10 := k37 _ _ f36_10
  have f37_11 := k37 _ _ f36_11
  have f37_12 := k37 _ _ f36_12
  have f37_13 := k37 _ _ f36_13
  refine mS_steps (pc' := 145) (ls' := [.ref 0, .int (0 : Int32)]) (st' := [.int (3 : Int32), .int (0 : Int32)]) (mem' := m37) 4 rfl ?_
  refine mS_one (pc' := 148) (ls' := [.ref 0, .int (0 : Int32)]) (st' := []) (mem' := m37) rfl (by decide) (by show some (bif decide ((3 : Int32) ≤ 0) then _ else _, _, _, _) = _; rw [show decide ((3 : Int32) ≤ 0) = false from by decide]; rfl) ?_
  refine mS_steps (pc' := 149) (ls' := [.ref 0, .int (0 : Int32)]) (st' := [.ref 0]) (mem' := m37) 1 rfl ?_
  refine mS_getg (r := 221) rfl f37_0 (by decide) (by decide) (by subst_vars; rfl) ?_
  refine mS_steps (pc' := 153) (ls' := [.ref 0, .int (0 : Int32)]) (st' := [.int (0 : Int32), .ref 221]) (mem' := m37) 1 rfl ?_
  refine mS_nwL (a := 264) rfl l37 (by decide) (fun m38 e38 l38 n38 k38 => ?_)
  have f38_0 := k38 _ _ f37_0
  have f38_1 := k38 _ _ f37_1
  have f38_2 := k38 _ _ f37_2
  have f38_3 := k38 _ _ f37_3
  have f38_4 := k38 _ _ f37_4
  have f38_5 := k38 _ _ f37_5
  have f38_6 := k38 _ _ f37_6
  have f38_7 := k38 _ _ f37_7
  have f38_8 := k38 _ _ f37_8
  have f38_9 := k38 _ _ f37_9
  have f38_10 := k38 _ _ f37_10
  have f38_11 := k38 _ _ f37_11
  have f38_12 := k38 _ _ f37_12
  have f38_13 := k38 _ _ f37_13
  refine mS_steps (pc' := 157) (ls' := [.ref 0, .int (0 : Int32)]) (st' := [.ref 264, .ref 264, .int (0 : Int32), .ref 221]) (mem' := m38) 1 rfl ?_
  refine mS_call (q := ()) 0 1 [.ref 264] [.ref 264, .int (0 : Int32), .ref 221] rfl rfl rfl ⟨_, _, _, rfl, rfl⟩ (Nat.le_of_ble_eq_true rfl) (Nat.le_of_ble_eq_true rfl) rfl (c_X6_init_snd 264 265 m38 n38 l38 (by decide)) ?_
  refine mS_steps (pc' := 160) (ls' := [.ref 0, .int (0 : Int32)]) (st' := [.ref 264, .int (0 : Int32), .ref 221]) (mem' := c_X6_init 264 265 m38) 0 rfl ?_
  refine mS_genM (mem := m38) (c_X6_init_len l38) (fun _ _ h => c_X6_init_at h) (fun m39 e39 l39 k39 => ?_)
  have f39_0 := k39 _ _ f38_0
  have f39_1 := k39 _ _ f38_1
  have f39_2 := k39 _ _ f38_2
  have f39_3 := k39 _ _ f38_3
  have f39_4 := k39 _ _ f38_4
  have f39_5 := k39 _ _ f38_5
  have f39_6 := k39 _ _ f38_6
  have f39_7 := k39 _ _ f38_7
  have f39_8 := k39 _ _ f38_8
  have f39_9 := k39 _ _ f38_9
  have f39_10 := k39 _ _ f38_10
  have f39_11 := k39 _ _ f38_11
  have f39_12 := k39 _ _ f38_12
  have f39_13 := k39 _ _ f38_13
  have f39_14 := k39 _ _ n38
  refine mS_steps (pc' := 160) (ls' := [.ref 0, .int (0 : Int32)]) (st' := [.ref 264, .int (0 : Int32), .ref 221]) (mem' := m39) 0 rfl ?_
  refine mS_aag (c := 0) rfl f39_4 (by decide) f39_14 (by decide) (by decide) (by decide) ?_
  refine mS_genM (mem := m39) l39 (fun _ _ h => h) (fun m40 e40 l40 k40 => ?_)
  have f40_0 := k40 _ _ f39_0
  have f40_1 := k40 _ _ f39_1
  have f40_2 := k40 _ _ f39_2
  have f40_3 := k40 _ _ f39_3
  have f40_4 := k40 _ _ f39_4
  have f40_5 := k40 _ _ f39_5
  have f40_6 := k40 _ _ f39_6
  have f40_7 := k40 _ _ f39_7
  have f40_8 := k40 _ _ f39_8
  have f40_9 := k40 _ _ f39_9
  have f40_10 := k40 _ _ f39_10
  have f40_11 := k40 _ _ f39_11
  have f40_12 := k40 _ _ f39_12
  have f40_13 := k40 _ _ f39_13
  have f40_14 := k40 _ _ f39_14
  refine mS_steps (pc' := 161) (ls' := [.ref 0, .int (0 : Int32)]) (st' := []) (mem' := m40) 0 rfl ?_
  refine mS_one (pc' := 164) (ls' := [.ref 0, .int (1 : Int32)]) (st' := []) (mem' := m40) rfl (by decide) (by show some (_, [Value.ref 0, Value.int ((0 : Int32) + 1)], _, _) = _; rw [show ((0 : Int32) + 1) = 1 from by decide]) ?_
  refine mS_steps (pc' := 145) (ls' := [.ref 0, .int (1 : Int32)]) (st' := [.int (3 : Int32), .int (1 : Int32)]) (mem' := m40) 3 rfl ?_
  refine mS_one (pc' := 148) (ls' := [.ref 0, .int (1 : Int32)]) (st' := []) (mem' := m40) rfl (by decide) (by show some (bif decide ((3 : Int32) ≤ 1) then _ else _, _, _, _) = _; rw [show decide ((3 : Int32) ≤ 1) = false from by decide]; rfl) ?_
  refine mS_steps (pc' := 149) (ls' := [.ref 0, .int (1 : Int32)]) (st' := [.ref 0]) (mem' := m40) 1 rfl ?_
  refine mS_getg (r := 221) rfl f40_0 (by decide) (by decide) (by subst_vars; rfl) ?_
  refine mS_steps (pc' := 153) (ls' := [.ref 0, .int (1 : Int32)]) (st' := [.int (1 : Int32), .ref 221]) (mem' := m40) 1 rfl ?_
  refine mS_nwL (a := 269) rfl l40 (by decide) (fun m41 e41 l41 n41 k41 => ?_)
  have f41_0 := k41 _ _ f40_0
  have f41_1 := k41 _ _ f40_1
  have f41_2 := k41 _ _ f40_2
  have f41_3 := k41 _ _ f40_3
  have f41_4 := k41 _ _ f40_4
  have f41_5 := k41 _ _ f40_5
  have f41_6 := k41 _ _ f40_6
  have f41_7 := k41 _ _ f40_7
  have f41_8 := k41 _ _ f40_8
  have f41_9 := k41 _ _ f40_9
  have f41_10 := k41 _ _ f40_10
  have f41_11 := k41 _ _ f40_11
  have f41_12 := k41 _ _ f40_12
  have f41_13 := k41 _ _ f40_13
  refine mS_steps (pc' := 157) (ls' := [.ref 0, .int (1 : Int32)]) (st' := [.ref 269, .ref 269, .int (1 : Int32), .ref 221]) (mem' := m41) 1 rfl ?_
  refine mS_call (q := ()) 0 1 [.ref 269] [.ref 269, .int (1 : Int32), .ref 221] rfl rfl rfl ⟨_, _, _, rfl, rfl⟩ (Nat.le_of_ble_eq_true rfl) (Nat.le_of_ble_eq_true rfl) rfl (c_X6_init_snd 269 270 m41 n41 l41 (by decide)) ?_
  refine mS_steps (pc' := 160) (ls' := [.ref 0, .int (1 : Int32)]) (st' := [.ref 269, .int (1 : Int32), .ref 221]) (mem' := c_X6_init 269 270 m41) 0 rfl ?_
  refine mS_genM (mem := m41) (c_X6_init_len l41) (fun _ _ h => c_X6_init_at h) (fun m42 e42 l42 k42 => ?_)
  have f42_0 := k42 _ _ f41_0
  have f42_1 := k42 _ _ f41_1
  have f42_2 := k42 _ _ f41_2
  have f42_3 := k42 _ _ f41_3
  have f42_4 := k42 _ _ f41_4
  have f42_5 := k42 _ _ f41_5
  have f42_6 := k42 _ _ f41_6
  have f42_7 := k42 _ _ f41_7
  have f42_8 := k42 _ _ f41_8
  have f42_9 := k42 _ _ f41_9
  have f42_10 := k42 _ _ f41_10
  have f42_11 := k42 _ _ f41_11
  have f42_12 := k42 _ _ f41_12
  have f42_13 := k42 _ _ f41_13
  have f42_15 := k42 _ _ n41
  refine mS_steps (pc' := 160) (ls' := [.ref 0, .int (1 : Int32)]) (st' := [.ref 269, .int (1 : Int32), .ref 221]) (mem' := m42) 0 rfl ?_
  refine mS_aag (c := 1) rfl f42_4 (by decide) f42_15 (by decide) (by decide) (by decide) ?_
  refine mS_genM (mem := m42) l42 (fun _ _ h => h) (fun m43 e43 l43 k43 => ?_)
  have f43_0 := k43 _ _ f42_0
  have f43_1 := k43 _ _ f42_1
  have f43_2 := k43 _ _ f42_2
  have f43_3 := k43 _ _ f42_3
  have f43_4 := k43 _ _ f42_4
  have f43_5 := k43 _ _ f42_5
  have f43_6 := k43 _ _ f42_6
  have f43_7 := k43 _ _ f42_7
  have f43_8 := k43 _ _ f42_8
  have f43_9 := k43 _ _ f42_9
  have f43_10 := k43 _ _ f42_10
  have f43_11 := k43 _ _ f42_11
  have f43_12 := k43 _ _ f42_12
  have f43_13 := k43 _ _ f42_13
  have f43_15 := k43 _ _ f42_15
  refine mS_steps (pc' := 161) (ls' := [.ref 0, .int (1 : Int32)]) (st' := []) (mem' := m43) 0 rfl ?_
  refine mS_one (pc' := 164) (ls' := [.ref 0, .int (2 : Int32)]) (st' := []) (mem' := m43) rfl (by decide) (by show some (_, [Value.ref 0, Value.int ((1 : Int32) + 1)], _, _) = _; rw [show ((1 : Int32) + 1) = 2 from by decide]) ?_
  refine mS_steps (pc' := 145) (ls' := [.ref 0, .int (2 : Int32)]) (st' := [.int (3 : Int32), .int (2 : Int32)]) (mem' := m43) 3 rfl ?_
  refine mS_one (pc' := 148) (ls' := [.ref 0, .int (2 : Int32)]) (st' := []) (mem' := m43) rfl (by decide) (by show some (bif decide ((3 : Int32) ≤ 2) then _ else _, _, _, _) = _; rw [show decide ((3 : Int32) ≤ 2) = false from by decide]; rfl) ?_
  refine mS_steps (pc' := 149) (ls' := [.ref 0, .int (2 : Int32)]) (st' := [.ref 0]) (mem' := m43) 1 rfl ?_
  refine mS_getg (r := 221) rfl f43_0 (by decide) (by decide) (by subst_vars; rfl) ?_
  refine mS_steps (pc' := 153) (ls' := [.ref 0, .int (2 : Int32)]) (st' := [.int (2 : Int32), .ref 221]) (mem' := m43) 1 rfl ?_
  refine mS_nwL (a := 274) rfl l43 (by decide) (fun m44 e44 l44 n44 k44 => ?_)
  have f44_0 := k44 _ _ f43_0
  have f44_1 := k44 _ _ f43_1
  have f44_2 := k44 _ _ f43_2
  have f44_3 := k44 _ _ f43_3
  have f44_4 := k44 _ _ f43_4
  have f44_5 := k44 _ _ f43_5
  have f44_6 := k44 _ _ f43_6
  have f44_7 := k44 _ _ f43_7
  have f44_8 := k44 _ _ f43_8
  have f44_9 := k44 _ _ f43_9
  have f44_10 := k44 _ _ f43_10
  have f44_11 := k44 _ _ f43_11
  have f44_12 := k44 _ _ f43_12
  have f44_13 := k44 _ _ f43_13
  refine mS_steps (pc' := 157) (ls' := [.ref 0, .int (2 : Int32)]) (st' := [.ref 274, .ref 274, .int (2 : Int32), .ref 221]) (mem' := m44) 1 rfl ?_
  refine mS_call (q := ()) 0 1 [.ref 274] [.ref 274, .int (2 : Int32), .ref 221] rfl rfl rfl ⟨_, _, _, rfl, rfl⟩ (Nat.le_of_ble_eq_true rfl) (Nat.le_of_ble_eq_true rfl) rfl (c_X6_init_snd 274 275 m44 n44 l44 (by decide)) ?_
  refine mS_steps (pc' := 160) (ls' := [.ref 0, .int (2 : Int32)]) (st' := [.ref 274, .int (2 : Int32), .ref 221]) (mem' := c_X6_init 274 275 m44) 0 rfl ?_
  refine mS_genM (mem := m44) (c_X6_init_len l44) (fun _ _ h => c_X6_init_at h) (fun m45 e45 l45 k45 => ?_)
  have f45_0 := k45 _ _ f44_0
  have f45_1 := k45 _ _ f44_1
  have f45_2 := k45 _ _ f44_2
  have f45_3 := k45 _ _ f44_3
  have f45_4 := k45 _ _ f44_4
  have f45_5 := k45 _ _ f44_5
  have f45_6 := k45 _ _ f44_6
  have f45_7 := k45 _ _ f44_7
  have f45_8 := k45 _ _ f44_8
  have f45_9 := k45 _ _ f44_9
  have f45_10 := k45 _ _ f44_10
  have f45_11 := k45 _ _ f44_11
  have f45_12 := k45 _ _ f44_12
  have f45_13 := k45 _ _ f44_13
  have f45_16 := k45 _ _ n44
  refine mS_steps (pc' := 160) (ls' := [.ref 0, .int (2 : Int32)]) (st' := [.ref 274, .int (2 : Int32), .ref 221]) (mem' := m45) 0 rfl ?_
  refine mS_aag (c := 2) rfl f45_4 (by decide) f45_16 (by decide) (by decide) (by decide) ?_
  refine mS_genM (mem := m45) l45 (fun _ _ h => h) (fun m46 e46 l46 k46 => ?_)
  have f46_0 := k46 _ _ f45_0
  have f46_1 := k46 _ _ f45_1
  have f46_2 := k46 _ _ f45_2
  have f46_3 := k46 _ _ f45_3
  have f46_4 := k46 _ _ f45_4
  have f46_5 := k46 _ _ f45_5
  have f46_6 := k46 _ _ f45_6
  have f46_7 := k46 _ _ f45_7
  have f46_8 := k46 _ _ f45_8
  have f46_9 := k46 _ _ f45_9
  have f46_10 := k46 _ _ f45_10
  have f46_11 := k46 _ _ f45_11
  have f46_12 := k46 _ _ f45_12
  have f46_13 := k46 _ _ f45_13
  have f46_16 := k46 _ _ f45_16
  refine mS_steps (pc' := 161) (ls' := [.ref 0, .int (2 : Int32)]) (st' := []) (mem' := m46) 0 rfl ?_
  refine mS_one (pc' := 164) (ls' := [.ref 0, .int (3 : Int32)]) (st' := []) (mem' := m46) rfl (by decide) (by show some (_, [Value.ref 0, Value.int ((2 : Int32) + 1)], _, _) = _; rw [show ((2 : Int32) + 1) = 3 from by decide]) ?_
  refine mS_steps (pc' := 145) (ls' := [.ref 0, .int (3 : Int32)]) (st' := [.int (3 : Int32), .int (3 : Int32)]) (mem' := m46) 3 rfl ?_
  refine mS_one (pc' := 167) (ls' := [.ref 0, .int (3 : Int32)]) (st' := []) (mem' := m46) rfl (by decide) (by show some (bif decide ((3 : Int32) ≤ 3) then _ else _, _, _, _) = _; rw [show decide ((3 : Int32) ≤ 3) = true from by decide]; rfl) ?_
  refine mS_steps (pc' := 167) (ls' := [.ref 0, .int (3 : Int32)]) (st' := []) (mem' := m46) 0 rfl ?_
  exact mS_retv ⟨_, _, _, _, _, rfl⟩ (by subst e46 e45 e44 e43 e42 e41 e40 e39 e38 e37 e36 e35 e34 e33 e32 e31 e30 e29 e28 e27 e26 e25 e24 e23 e22 e21 e20 e19 e18 e17 e16 e15 e14 e13 e12 e11 e10 e9 e8 e7 e6 e5 e4 e3 e2 e1; rfl)
def c_X11_init (mem : mM) : mM := (m_pi 279 18 (-2 : Int32) (m_pj 286 4 (90302 : Int64) (m_pj 286 3 (365654 : Int64) (m_pj 286 2 (11103 : Int64) (m_pj 286 1 (243146 : Int64) (m_pj 286 0 (326396 : Int64) (m_pr 279 63 314 (m_na 0 4 314 (m_pr 279 61 313 (m_na 0 28 313 (m_pr 279 60 312 (m_na 0 256 312 (m_pr 279 59 311 (m_na 0 2048 311 (m_pr 279 58 310 (m_na 0 16 310 (m_pr 279 57 309 (m_na 0 32 309 (m_pr 279 52 308 (m_na 0 8 308 (m_pr 279 47 307 (m_na 0 8 307 (m_pr 279 45 306 (m_na 0 16 306 (m_pr 279 44 305 (m_na 0 160 305 (m_pr 279 43 304 (m_na 0 8 304 (m_pr 279 42 303 (m_na 0 8 303 (m_pr 279 41 302 (m_na 0 8 302 (m_pr 279 40 301 (m_na 0 64 301 (m_pr 279 39 300 (m_na 0 64 300 (m_pr 279 38 299 (m_na 0 512 299 (m_pr 279 37 298 (m_na 0 64 298 (m_pr 279 36 297 (m_na 0 64 297 (m_pr 279 35 296 (m_na 0 64 296 (m_pr 279 33 295 (m_na 0 28 295 (m_pr 279 32 294 (m_na 3 256 294 (m_pr 279 31 293 (m_na 0 24 293 (m_pr 279 29 292 (m_na 3 3 292 (m_pr 279 28 291 (m_na 0 216 291 (m_pr 279 25 290 (m_na 0 2880 290 (m_pr 279 24 289 (m_na 0 72 289 (m_pr 279 23 288 (m_na 0 72 288 (m_pr 279 22 287 (m_na 1 8 287 (m_pi 279 16 (-1 : Int32) (m_pr 279 9 286 (m_na 1 5 286 (m_pr 279 8 285 (m_na 1 403 285 (m_pr 279 7 284 (m_na 0 403 284 (m_pr 279 6 283 (m_na 0 403 283 (m_pr 279 5 282 (m_na 0 403 282 (m_pr 279 3 281 (m_na 2 2000 281 (m_pr 279 1 280 (m_na 2 2000 280 mem)))))))))))))))))))))))))))))))))))))))))))))))))))))))))))))))))))))))))))))
theorem c_X11_init_sh (mem : mM) : (c_X11_init mem).1 = mem.1 ++ [(102, 2000), (102, 2000), (100, 403), (100, 403), (100, 403), (101, 403), (101, 5), (101, 8), (100, 72), (100, 72), (100, 2880), (100, 216), (103, 3), (100, 24), (103, 256), (100, 28), (100, 64), (100, 64), (100, 64), (100, 512), (100, 64), (100, 64), (100, 8), (100, 8), (100, 8), (100, 160), (100, 16), (100, 8), (100, 8), (100, 32), (100, 16), (100, 2048), (100, 256), (100, 28), (100, 4)] := by
  show _ = _
  simp only [c_X11_init, m_nw, m_na, m_pr, m_pi, m_pj, List.append_assoc, List.cons_append, List.nil_append]
  rfl
theorem c_X11_init_at {k : Nat} {mem : mM} {s : Nat × Nat} (h : mem.1[k]? = some s) : (c_X11_init mem).1[k]? = some s := by
  rw [c_X11_init_sh, List.getElem?_append_left (List.getElem?_eq_some_iff.mp h).1]; exact h
theorem c_X11_init_len {n : Nat} {mem : mM} (h : mem.1.length = n) : (c_X11_init mem).1.length = n + 35 := by
  rw [c_X11_init_sh, List.length_append, h]; rfl
set_option maxRecDepth 20000 in
theorem c_X11_init_ge {k : Nat} {mem : mM} (h : 315 ≤ k) : (c_X11_init mem).2.2.2 k = mem.2.2.2 k := (m_pi_ge.trans (m_pj_ge.trans (m_pj_ge.trans (m_pj_ge.trans (m_pj_ge.trans (m_pj_ge.trans ((m_pr_ge (by decide) h).trans ((m_na_ge (by decide) h).trans ((m_pr_ge (by decide) h).trans ((m_na_ge (by decide) h).trans ((m_pr_ge (by decide) h).trans ((m_na_ge (by decide) h).trans ((m_pr_ge (by decide) h).trans ((m_na_ge (by decide) h).trans ((m_pr_ge (by decide) h).trans ((m_na_ge (by decide) h).trans ((m_pr_ge (by decide) h).trans ((m_na_ge (by decide) h).trans ((m_pr_ge (by decide) h).trans ((m_na_ge (by decide) h).trans ((m_pr_ge (by decide) h).trans ((m_na_ge (by decide) h).trans ((m_pr_ge (by decide) h).trans ((m_na_ge (by decide) h).trans ((m_pr_ge (by decide) h).trans ((m_na_ge (by decide) h).trans ((m_pr_ge (by decide) h).trans ((m_na_ge (by decide) h).trans ((m_pr_ge (by decide) h).trans ((m_na_ge (by decide) h).trans ((m_pr_ge (by decide) h).trans ((m_na_ge (by decide) h).trans ((m_pr_ge (by decide) h).trans ((m_na_ge (by decide) h).trans ((m_pr_ge (by decide) h).trans ((m_na_ge (by decide) h).trans ((m_pr_ge (by decide) h).trans ((m_na_ge (by decide) h).trans ((m_pr_ge (by decide) h).trans ((m_na_ge (by decide) h).trans ((m_pr_ge (by decide) h).trans ((m_na_ge (by decide) h).trans ((m_pr_ge (by decide) h).trans ((m_na_ge (by decide) h).trans ((m_pr_ge (by decide) h).trans ((m_na_ge (by decide) h).trans ((m_pr_ge (by decide) h).trans ((m_na_ge (by decide) h).trans ((m_pr_ge (by decide) h).trans ((m_na_ge (by decide) h).trans ((m_pr_ge (by decide) h).trans ((m_na_ge (by decide) h).trans ((m_pr_ge (by decide) h).trans ((m_na_ge (by decide) h).trans ((m_pr_ge (by decide) h).trans ((m_na_ge (by decide) h).trans ((m_pr_ge (by decide) h).trans ((m_na_ge (by decide) h).trans ((m_pr_ge (by decide) h).trans ((m_na_ge (by decide) h).trans ((m_pr_ge (by decide) h).trans ((m_na_ge (by decide) h).trans (m_pi_ge.trans ((m_pr_ge (by decide) h).trans ((m_na_ge (by decide) h).trans ((m_pr_ge (by decide) h).trans ((m_na_ge (by decide) h).trans ((m_pr_ge (by decide) h).trans ((m_na_ge (by decide) h).trans ((m_pr_ge (by decide) h).trans ((m_na_ge (by decide) h).trans ((m_pr_ge (by decide) h).trans ((m_na_ge (by decide) h).trans ((m_pr_ge (by decide) h).trans ((m_na_ge (by decide) h).trans ((m_pr_ge (by decide) h).trans (m_na_ge (by decide) h)))))))))))))))))))))))))))))))))))))))))))))))))))))))))))))))))))))))))))))
set_option maxRecDepth 20000 in
set_option maxHeartbeats 4000000 in
theorem c_X11_init_snd {fm : Value} {L : Nat} {xs : Nat → Int32} (mem : mM) (hq : mem.1[279]? = some (11, 64)) (hl : mem.1.length = 280) : mS fm L xs (fun _ : Unit => (mU, c_X11_init mem)) pg_X11_init 0 (m_entry [.ref 279] 1) [] mem (some ()) := by
  refine mS_steps (pc' := 8) (ls' := [.ref 279]) (st' := [.int (2000 : Int32), .ref 279]) (mem' := mem) 4 rfl ?_
  refine mS_naL (a := 280) (N := 2000) rfl hl (by decide) (by decide) (by decide) (by decide) (fun m1 e1 l1 n1 k1 => ?_)
  have f1_0 := k1 _ _ hq
  refine mS_steps (pc' := 10) (ls' := [.ref 279]) (st' := [.ref 280, .ref 279]) (mem' := m1) 0 rfl ?_
  refine mS_prg rfl f1_0 (by decide) (by decide) ?_
  refine mS_genM (mem := m1) l1 (fun _ _ h => h) (fun m2 e2 l2 k2 => ?_)
  have f2_0 := k2 _ _ f1_0
  have f2_1 := k2 _ _ n1
  refine mS_steps (pc' := 17) (ls' := [.ref 279]) (st' := [.int (2000 : Int32), .ref 279]) (mem' := m2) 2 rfl ?_
  refine mS_naL (a := 281) (N := 2000) rfl l2 (by decide) (by decide) (by decide) (by decide) (fun m3 e3 l3 n3 k3 => ?_)
  have f3_0 := k3 _ _ f2_0
  have f3_1 := k3 _ _ f2_1
  refine mS_steps (pc' := 19) (ls' := [.ref 279]) (st' := [.ref 281, .ref 279]) (mem' := m3) 0 rfl ?_
  refine mS_prg rfl f3_0 (by decide) (by decide) ?_
  refine mS_genM (mem := m3) l3 (fun _ _ h => h) (fun m4 e4 l4 k4 => ?_)
  have f4_0 := k4 _ _ f3_0
  have f4_1 := k4 _ _ f3_1
  have f4_2 := k4 _ _ n3
  refine mS_steps (pc' := 26) (ls' := [.ref 279]) (st' := [.int (403 : Int32), .ref 279]) (mem' := m4) 2 rfl ?_
  refine mS_naL (a := 282) (N := 403) rfl l4 (by decide) (by decide) (by decide) (by decide) (fun m5 e5 l5 n5 k5 => ?_)
  have f5_0 := k5 _ _ f4_0
  have f5_1 := k5 _ _ f4_1
  have f5_2 := k5 _ _ f4_2
  refine mS_steps (pc' := 28) (ls' := [.ref 279]) (st' := [.ref 282, .ref 279]) (mem' := m5) 0 rfl ?_
  refine mS_prg rfl f5_0 (by decide) (by decide) ?_
  refine mS_genM (mem := m5) l5 (fun _ _ h => h) (fun m6 e6 l6 k6 => ?_)
  have f6_0 := k6 _ _ f5_0
  have f6_1 := k6 _ _ f5_1
  have f6_2 := k6 _ _ f5_2
  have f6_3 := k6 _ _ n5
  refine mS_steps (pc' := 35) (ls' := [.ref 279]) (st' := [.int (403 : Int32), .ref 279]) (mem' := m6) 2 rfl ?_
  refine mS_naL (a := 283) (N := 403) rfl l6 (by decide) (by decide) (by decide) (by decide) (fun m7 e7 l7 n7 k7 => ?_)
  have f7_0 := k7 _ _ f6_0
  have f7_1 := k7 _ _ f6_1
  have f7_2 := k7 _ _ f6_2
  have f7_3 := k7 _ _ f6_3
  refine mS_steps (pc' := 37) (ls' := [.ref 279]) (st' := [.ref 283, .ref 279]) (mem' := m7) 0 rfl ?_
  refine mS_prg rfl f7_0 (by decide) (by decide) ?_
  refine mS_genM (mem := m7) l7 (fun _ _ h => h) (fun m8 e8 l8 k8 => ?_)
  have f8_0 := k8 _ _ f7_0
  have f8_1 := k8 _ _ f7_1
  have f8_2 := k8 _ _ f7_2
  have f8_3 := k8 _ _ f7_3
  have f8_4 := k8 _ _ n7
  refine mS_steps (pc' := 44) (ls' := [.ref 279]) (st' := [.int (403 : Int32), .ref 279]) (mem' := m8) 2 rfl ?_
  refine mS_naL (a := 284) (N := 403) rfl l8 (by decide) (by decide) (by decide) (by decide) (fun m9 e9 l9 n9 k9 => ?_)
  have f9_0 := k9 _ _ f8_0
  have f9_1 := k9 _ _ f8_1
  have f9_2 := k9 _ _ f8_2
  have f9_3 := k9 _ _ f8_3
  have f9_4 := k9 _ _ f8_4
  refine mS_steps (pc' := 46) (ls' := [.ref 279]) (st' := [.ref 284, .ref 279]) (mem' := m9) 0 rfl ?_
  refine mS_prg rfl f9_0 (by decide) (by decide) ?_
  refine mS_genM (mem := m9) l9 (fun _ _ h => h) (fun m10 e10 l10 k10 => ?_)
  have f10_0 := k10 _ _ f9_0
  have f10_1 := k10 _ _ f9_1
  have f10_2 := k10 _ _ f9_2
  have f10_3 := k10 _ _ f9_3
  have f10_4 := k10 _ _ f9_4
  have f10_5 := k10 _ _ n9
  refine mS_steps (pc' := 53) (ls' := [.ref 279]) (st' := [.int (403 : Int32), .ref 279]) (mem' := m10) 2 rfl ?_
  refine mS_naL (a := 285) (N := 403) rfl l10 (by decide) (by decide) (by decide) (by decide) (fun m11 e11 l11 n11 k11 => ?_)
  have f11_0 := k11 _ _ f10_0
  have f11_1 := k11 _ _ f10_1
  have f11_2 := k11 _ _ f10_2
  have f11_3 := k11 _ _ f10_3
  have f11_4 := k11 _ _ f10_4
  have f11_5 := k11 _ _ f10_5
  refine mS_steps (pc' := 55) (ls' := [.ref 279]) (st' := [.ref 285, .ref 279]) (mem' := m11) 0 rfl ?_
  refine mS_prg rfl f11_0 (by decide) (by decide) ?_
  refine mS_genM (mem := m11) l11 (fun _ _ h => h) (fun m12 e12 l12 k12 => ?_)
  have f12_0 := k12 _ _ f11_0
  have f12_1 := k12 _ _ f11_1
  have f12_2 := k12 _ _ f11_2
  have f12_3 := k12 _ _ f11_3
  have f12_4 := k12 _ _ f11_4
  have f12_5 := k12 _ _ f11_5
  have f12_6 := k12 _ _ n11
  refine mS_steps (pc' := 60) (ls' := [.ref 279]) (st' := [.int (5 : Int32), .ref 279]) (mem' := m12) 2 rfl ?_
  refine mS_naL (a := 286) (N := 5) rfl l12 (by decide) (by decide) (by decide) (by decide) (fun m13 e13 l13 n13 k13 => ?_)
  have f13_0 := k13 _ _ f12_0
  have f13_1 := k13 _ _ f12_1
  have f13_2 := k13 _ _ f12_2
  have f13_3 := k13 _ _ f12_3
  have f13_4 := k13 _ _ f12_4
  have f13_5 := k13 _ _ f12_5
  have f13_6 := k13 _ _ f12_6
  refine mS_steps (pc' := 62) (ls' := [.ref 279]) (st' := [.ref 286, .ref 279]) (mem' := m13) 0 rfl ?_
  refine mS_prg rfl f13_0 (by decide) (by decide) ?_
  refine mS_genM (mem := m13) l13 (fun _ _ h => h) (fun m14 e14 l14 k14 => ?_)
  have f14_0 := k14 _ _ f13_0
  have f14_1 := k14 _ _ f13_1
  have f14_2 := k14 _ _ f13_2
  have f14_3 := k14 _ _ f13_3
  have f14_4 := k14 _ _ f13_4
  have f14_5 := k14 _ _ f13_5
  have f14_6 := k14 _ _ f13_6
  have f14_7 := k14 _ _ n13
  refine mS_steps (pc' := 67) (ls' := [.ref 279]) (st' := [.int (-1 : Int32), .ref 279]) (mem' := m14) 2 rfl ?_
  refine mS_pig rfl f14_0 (by decide) (by decide) ?_
  refine mS_genM (mem := m14) l14 (fun _ _ h => h) (fun m15 e15 l15 k15 => ?_)
  have f15_0 := k15 _ _ f14_0
  have f15_1 := k15 _ _ f14_1
  have f15_2 := k15 _ _ f14_2
  have f15_3 := k15 _ _ f14_3
  have f15_4 := k15 _ _ f14_4
  have f15_5 := k15 _ _ f14_5
  have f15_6 := k15 _ _ f14_6
  have f15_7 := k15 _ _ f14_7
  refine mS_steps (pc' := 73) (ls' := [.ref 279]) (st' := [.int (8 : Int32), .ref 279]) (mem' := m15) 2 rfl ?_
  refine mS_naL (a := 287) (N := 8) rfl l15 (by decide) (by decide) (by decide) (by decide) (fun m16 e16 l16 n16 k16 => ?_)
  have f16_0 := k16 _ _ f15_0
  have f16_1 := k16 _ _ f15_1
  have f16_2 := k16 _ _ f15_2
  have f16_3 := k16 _ _ f15_3
  have f16_4 := k16 _ _ f15_4
  have f16_5 := k16 _ _ f15_5
  have f16_6 := k16 _ _ f15_6
  have f16_7 := k16 _ _ f15_7
  refine mS_steps (pc' := 75) (ls' := [.ref 279]) (st' := [.ref 287, .ref 279]) (mem' := m16) 0 rfl ?_
  refine mS_prg rfl f16_0 (by decide) (by decide) ?_
  refine mS_genM (mem := m16) l16 (fun _ _ h => h) (fun m17 e17 l17 k17 => ?_)
  have f17_0 := k17 _ _ f16_0
  have f17_1 := k17 _ _ f16_1
  have f17_2 := k17 _ _ f16_2
  have f17_3 := k17 _ _ f16_3
  have f17_4 := k17 _ _ f16_4
  have f17_5 := k17 _ _ f16_5
  have f17_6 := k17 _ _ f16_6
  have f17_7 := k17 _ _ f16_7
  have f17_8 := k17 _ _ n16
  refine mS_steps (pc' := 81) (ls' := [.ref 279]) (st' := [.int (72 : Int32), .ref 279]) (mem' := m17) 2 rfl ?_
  refine mS_naL (a := 288) (N := 72) rfl l17 (by decide) (by decide) (by decide) (by decide) (fun m18 e18 l18 n18 k18 => ?_)
  have f18_0 := k18 _ _ f17_0
  have f18_1 := k18 _ _ f17_1
  have f18_2 := k18 _ _ f17_2
  have f18_3 := k18 _ _ f17_3
  have f18_4 := k18 _ _ f17_4
  have f18_5 := k18 _ _ f17_5
  have f18_6 := k18 _ _ f17_6
  have f18_7 := k18 _ _ f17_7
  have f18_8 := k18 _ _ f17_8
  refine mS_steps (pc' := 83) (ls' := [.ref 279]) (st' := [.ref 288, .ref 279]) (mem' := m18) 0 rfl ?_
  refine mS_prg rfl f18_0 (by decide) (by decide) ?_
  refine mS_genM (mem := m18) l18 (fun _ _ h => h) (fun m19 e19 l19 k19 => ?_)
  have f19_0 := k19 _ _ f18_0
  have f19_1 := k19 _ _ f18_1
  have f19_2 := k19 _ _ f18_2
  have f19_3 := k19 _ _ f18_3
  have f19_4 := k19 _ _ f18_4
  have f19_5 := k19 _ _ f18_5
  have f19_6 := k19 _ _ f18_6
  have f19_7 := k19 _ _ f18_7
  have f19_8 := k19 _ _ f18_8
  have f19_9 := k19 _ _ n18
  refine mS_steps (pc' := 89) (ls' := [.ref 279]) (st' := [.int (72 : Int32), .ref 279]) (mem' := m19) 2 rfl ?_
  refine mS_naL (a := 289) (N := 72) rfl l19 (by decide) (by decide) (by decide) (by decide) (fun m20 e20 l20 n20 k20 => ?_)
  have f20_0 := k20 _ _ f19_0
  have f20_1 := k20 _ _ f19_1
  have f20_2 := k20 _ _ f19_2
  have f20_3 := k20 _ _ f19_3
  have f20_4 := k20 _ _ f19_4
  have f20_5 := k20 _ _ f19_5
  have f20_6 := k20 _ _ f19_6
  have f20_7 := k20 _ _ f19_7
  have f20_8 := k20 _ _ f19_8
  have f20_9 := k20 _ _ f19_9
  refine mS_steps (pc' := 91) (ls' := [.ref 279]) (st' := [.ref 289, .ref 279]) (mem' := m20) 0 rfl ?_
  refine mS_prg rfl f20_0 (by decide) (by decide) ?_
  refine mS_genM (mem := m20) l20 (fun _ _ h => h) (fun m21 e21 l21 k21 => ?_)
  have f21_0 := k21 _ _ f20_0
  have f21_1 := k21 _ _ f20_1
  have f21_2 := k21 _ _ f20_2
  have f21_3 := k21 _ _ f20_3
  have f21_4 := k21 _ _ f20_4
  have f21_5 := k21 _ _ f20_5
  have f21_6 := k21 _ _ f20_6
  have f21_7 := k21 _ _ f20_7
  have f21_8 := k21 _ _ f20_8
  have f21_9 := k21 _ _ f20_9
  have f21_10 := k21 _ _ n20
  refine mS_steps (pc' := 98) (ls' := [.ref 279]) (st' := [.int (2880 : Int32), .ref 279]) (mem' := m21) 2 rfl ?_
  refine mS_naL (a := 290) (N := 2880) rfl l21 (by decide) (by decide) (by decide) (by decide) (fun m22 e22 l22 n22 k22 => ?_)
  have f22_0 := k22 _ _ f21_0
  have f22_1 := k22 _ _ f21_1
  have f22_2 := k22 _ _ f21_2
  have f22_3 := k22 _ _ f21_3
  have f22_4 := k22 _ _ f21_4
  have f22_5 := k22 _ _ f21_5
  have f22_6 := k22 _ _ f21_6
  have f22_7 := k22 _ _ f21_7
  have f22_8 := k22 _ _ f21_8
  have f22_9 := k22 _ _ f21_9
  have f22_10 := k22 _ _ f21_10
  refine mS_steps (pc' := 100) (ls' := [.ref 279]) (st' := [.ref 290, .ref 279]) (mem' := m22) 0 rfl ?_
  refine mS_prg rfl f22_0 (by decide) (by decide) ?_
  refine mS_genM (mem := m22) l22 (fun _ _ h => h) (fun m23 e23 l23 k23 => ?_)
  have f23_0 := k23 _ _ f22_0
  have f23_1 := k23 _ _ f22_1
  have f23_2 := k23 _ _ f22_2
  have f23_3 := k23 _ _ f22_3
  have f23_4 := k23 _ _ f22_4
  have f23_5 := k23 _ _ f22_5
  have f23_6 := k23 _ _ f22_6
  have f23_7 := k23 _ _ f22_7
  have f23_8 := k23 _ _ f22_8
  have f23_9 := k23 _ _ f22_9
  have f23_10 := k23 _ _ f22_10
  have f23_11 := k23 _ _ n22
  refine mS_steps (pc' := 107) (ls' := [.ref 279]) (st' := [.int (216 : Int32), .ref 279]) (mem' := m23) 2 rfl ?_
  refine mS_naL (a := 291) (N := 216) rfl l23 (by decide) (by decide) (by decide) (by decide) (fun m24 e24 l24 n24 k24 => ?_)
  have f24_0 := k24 _ _ f23_0
  have f24_1 := k24 _ _ f23_1
  have f24_2 := k24 _ _ f23_2
  have f24_3 := k24 _ _ f23_3
  have f24_4 := k24 _ _ f23_4
  have f24_5 := k24 _ _ f23_5
  have f24_6 := k24 _ _ f23_6
  have f24_7 := k24 _ _ f23_7
  have f24_8 := k24 _ _ f23_8
  have f24_9 := k24 _ _ f23_9
  have f24_10 := k24 _ _ f23_10
  have f24_11 := k24 _ _ f23_11
  refine mS_steps (pc' := 109) (ls' := [.ref 279]) (st' := [.ref 291, .ref 279]) (mem' := m24) 0 rfl ?_
  refine mS_prg rfl f24_0 (by decide) (by decide) ?_
  refine mS_genM (mem := m24) l24 (fun _ _ h => h) (fun m25 e25 l25 k25 => ?_)
  have f25_0 := k25 _ _ f24_0
  have f25_1 := k25 _ _ f24_1
  have f25_2 := k25 _ _ f24_2
  have f25_3 := k25 _ _ f24_3
  have f25_4 := k25 _ _ f24_4
  have f25_5 := k25 _ _ f24_5
  have f25_6 := k25 _ _ f24_6
  have f25_7 := k25 _ _ f24_7
  have f25_8 := k25 _ _ f24_8
  have f25_9 := k25 _ _ f24_9
  have f25_10 := k25 _ _ f24_10
  have f25_11 := k25 _ _ f24_11
  have f25_12 := k25 _ _ n24
  refine mS_steps (pc' := 114) (ls' := [.ref 279]) (st' := [.int (3 : Int32), .ref 279]) (mem' := m25) 2 rfl ?_
  refine mS_naL (a := 292) (N := 3) rfl l25 (by decide) (by decide) (by decide) (by decide) (fun m26 e26 l26 n26 k26 => ?_)
  have f26_0 := k26 _ _ f25_0
  have f26_1 := k26 _ _ f25_1
  have f26_2 := k26 _ _ f25_2
  have f26_3 := k26 _ _ f25_3
  have f26_4 := k26 _ _ f25_4
  have f26_5 := k26 _ _ f25_5
  have f26_6 := k26 _ _ f25_6
  have f26_7 := k26 _ _ f25_7
  have f26_8 := k26 _ _ f25_8
  have f26_9 := k26 _ _ f25_9
  have f26_10 := k26 _ _ f25_10
  have f26_11 := k26 _ _ f25_11
  have f26_12 := k26 _ _ f25_12
  refine mS_steps (pc' := 116) (ls' := [.ref 279]) (st' := [.ref 292, .ref 279]) (mem' := m26) 0 rfl ?_
  refine mS_prg rfl f26_0 (by decide) (by decide) ?_
  refine mS_genM (mem := m26) l26 (fun _ _ h => h) (fun m27 e27 l27 k27 => ?_)
  have f27_0 := k27 _ _ f26_0
  have f27_1 := k27 _ _ f26_1
  have f27_2 := k27 _ _ f26_2
  have f27_3 := k27 _ _ f26_3
  have f27_4 := k27 _ _ f26_4
  have f27_5 := k27 _ _ f26_5
  have f27_6 := k27 _ _ f26_6
  have f27_7 := k27 _ _ f26_7
  have f27_8 := k27 _ _ f26_8
  have f27_9 := k27 _ _ f26_9
  have f27_10 := k27 _ _ f26_10
  have f27_11 := k27 _ _ f26_11
  have f27_12 := k27 _ _ f26_12
  have f27_13 := k27 _ _ n26
  refine mS_steps (pc' := 122) (ls' := [.ref 279]) (st' := [.int (24 : Int32), .ref 279]) (mem' := m27) 2 rfl ?_
  refine mS_naL (a := 293) (N := 24) rfl l27 (by decide) (by decide) (by decide) (by decide) (fun m28 e28 l28 n28 k28 => ?_)
  have f28_0 := k28 _ _ f27_0
  have f28_1 := k28 _ _ f27_1
  have f28_2 := k28 _ _ f27_2
  have f28_3 := k28 _ _ f27_3
  have f28_4 := k28 _ _ f27_4
  have f28_5 := k28 _ _ f27_5
  have f28_6 := k28 _ _ f27_6
  have f28_7 := k28 _ _ f27_7
  have f28_8 := k28 _ _ f27_8
  have f28_9 := k28 _ _ f27_9
  have f28_10 := k28 _ _ f27_10
  have f28_11 := k28 _ _ f27_11
  have f28_12 := k28 _ _ f27_12
  have f28_13 := k28 _ _ f27_13
  refine mS_steps (pc' := 124) (ls' := [.ref 279]) (st' := [.ref 293, .ref 279]) (mem' := m28) 0 rfl ?_
  refine mS_prg rfl f28_0 (by decide) (by decide) ?_
  refine mS_genM (mem := m28) l28 (fun _ _ h => h) (fun m29 e29 l29 k29 => ?_)
  have f29_0 := k29 _ _ f28_0
  have f29_1 := k29 _ _ f28_1
  have f29_2 := k29 _ _ f28_2
  have f29_3 := k29 _ _ f28_3
  have f29_4 := k29 _ _ f28_4
  have f29_5 := k29 _ _ f28_5
  have f29_6 := k29 _ _ f28_6
  have f29_7 := k29 _ _ f28_7
  have f29_8 := k29 _ _ f28_8
  have f29_9 := k29 _ _ f28_9
  have f29_10 := k29 _ _ f28_10
  have f29_11 := k29 _ _ f28_11
  have f29_12 := k29 _ _ f28_12
  have f29_13 := k29 _ _ f28_13
  have f29_14 := k29 _ _ n28
  refine mS_steps (pc' := 131) (ls' := [.ref 279]) (st' := [.int (256 : Int32), .ref 279]) (mem' := m29) 2 rfl ?_
  refine mS_naL (a := 294) (N := 256) rfl l29 (by decide) (by decide) (by decide) (by decide) (fun m30 e30 l30 n30 k30 => ?_)
  have f30_0 := k30 _ _ f29_0
  have f30_1 := k30 _ _ f29_1
  have f30_2 := k30 _ _ f29_2
  have f30_3 := k30 _ _ f29_3
  have f30_4 := k30 _ _ f29_4
  have f30_5 := k30 _ _ f29_5
  have f30_6 := k30 _ _ f29_6
  have f30_7 := k30 _ _ f29_7
  have f30_8 := k30 _ _ f29_8
  have f30_9 := k30 _ _ f29_9
  have f30_10 := k30 _ _ f29_10
  have f30_11 := k30 _ _ f29_11
  have f30_12 := k30 _ _ f29_12
  have f30_13 := k30 _ _ f29_13
  have f30_14 := k30 _ _ f29_14
  refine mS_steps (pc' := 133) (ls' := [.ref 279]) (st' := [.ref 294, .ref 279]) (mem' := m30) 0 rfl ?_
  refine mS_prg rfl f30_0 (by decide) (by decide) ?_
  refine mS_genM (mem := m30) l30 (fun _ _ h => h) (fun m31 e31 l31 k31 => ?_)
  have f31_0 := k31 _ _ f30_0
  have f31_1 := k31 _ _ f30_1
  have f31_2 := k31 _ _ f30_2
  have f31_3 := k31 _ _ f30_3
  have f31_4 := k31 _ _ f30_4
  have f31_5 := k31 _ _ f30_5
  have f31_6 := k31 _ _ f30_6
  have f31_7 := k31 _ _ f30_7
  have f31_8 := k31 _ _ f30_8
  have f31_9 := k31 _ _ f30_9
  have f31_10 := k31 _ _ f30_10
  have f31_11 := k31 _ _ f30_11
  have f31_12 := k31 _ _ f30_12
  have f31_13 := k31 _ _ f30_13
  have f31_14 := k31 _ _ f30_14
  have f31_15 := k31 _ _ n30
  refine mS_steps (pc' := 139) (ls' := [.ref 279]) (st' := [.int (28 : Int32), .ref 279]) (mem' := m31) 2 rfl ?_
  refine mS_naL (a := 295) (N := 28) rfl l31 (by decide) (by decide) (by decide) (by decide) (fun m32 e32 l32 n32 k32 => ?_)
  have f32_0 := k32 _ _ f31_0
  have f32_1 := k32 _ _ f31_1
  have f32_2 := k32 _ _ f31_2
  have f32_3 := k32 _ _ f31_3
  have f32_4 := k32 _ _ f31_4
  have f32_5 := k32 _ _ f31_5
  have f32_6 := k32 _ _ f31_6
  have f32_7 := k32 _ _ f31_7
  have f32_8 := k32 _ _ f31_8
  have f32_9 := k32 _ _ f31_9
  have f32_10 := k32 _ _ f31_10
  have f32_11 := k32 _ _ f31_11
  have f32_12 := k32 _ _ f31_12
  have f32_13 := k32 _ _ f31_13
  have f32_14 := k32 _ _ f31_14
  have f32_15 := k32 _ _ f31_15
  refine mS_steps (pc' := 141) (ls' := [.ref 279]) (st' := [.ref 295, .ref 279]) (mem' := m32) 0 rfl ?_
  refine mS_prg rfl f32_0 (by decide) (by decide) ?_
  refine mS_genM (mem := m32) l32 (fun _ _ h => h) (fun m33 e33 l33 k33 => ?_)
  have f33_0 := k33 _ _ f32_0
  have f33_1 := k33 _ _ f32_1
  have f33_2 := k33 _ _ f32_2
  have f33_3 := k33 _ _ f32_3
  have f33_4 := k33 _ _ f32_4
  have f33_5 := k33 _ _ f32_5
  have f33_6 := k33 _ _ f32_6
  have f33_7 := k33 _ _ f32_7
  have f33_8 := k33 _ _ f32_8
  have f33_9 := k33 _ _ f32_9
  have f33_10 := k33 _ _ f32_10
  have f33_11 := k33 _ _ f32_11
  have f33_12 := k33 _ _ f32_12
  have f33_13 := k33 _ _ f32_13
  have f33_14 := k33 _ _ f32_14
  have f33_15 := k33 _ _ f32_15
  have f33_16 := k33 _ _ n32
  refine mS_steps (pc' := 147) (ls' := [.ref 279]) (st' := [.int (64 : Int32), .ref 279]) (mem' := m33) 2 rfl ?_
  refine mS_naL (a := 296) (N := 64) rfl l33 (by decide) (by decide) (by decide) (by decide) (fun m34 e34 l34 n34 k34 => ?_)
  have f34_0 := k34 _ _ f33_0
  have f34_1 := k34 _ _ f33_1
  have f34_2 := k34 _ _ f33_2
  have f34_3 := k34 _ _ f33_3
  have f34_4 := k34 _ _ f33_4
  have f34_5 := k34 _ _ f33_5
  have f34_6 := k34 _ _ f33_6
  have f34_7 := k34 _ _ f33_7
  have f34_8 := k34 _ _ f33_8
  have f34_9 := k34 _ _ f33_9
  have f34_10 := k34 _ _ f33_10
  have f34_11 := k34 _ _ f33_11
  have f34_12 := k34 _ _ f33_12
  have f34_13 := k34 _ _ f33_13
  have f34_14 := k34 _ _ f33_14
  have f34_15 := k34 _ _ f33_15
  have f34_16 := k34 _ _ f33_16
  refine mS_steps (pc' := 149) (ls' := [.ref 279]) (st' := [.ref 296, .ref 279]) (mem' := m34) 0 rfl ?_
  refine mS_prg rfl f34_0 (by decide) (by decide) ?_
  refine mS_genM (mem := m34) l34 (fun _ _ h => h) (fun m35 e35 l35 k35 => ?_)
  have f35_0 := k35 _ _ f34_0
  have f35_1 := k35 _ _ f34_1
  have f35_2 := k35 _ _ f34_2
  have f35_3 := k35 _ _ f34_3
  have f35_4 := k35 _ _ f34_4
  have f35_5 := k35 _ _ f34_5
  have f35_6 := k35 _ _ f34_6
  have f35_7 := k35 _ _ f34_7
  have f35_8 := k35 _ _ f34_8
  have f35_9 := k35 _ _ f34_9
  have f35_10 := k35 _ _ f34_10
  have f35_11 := k35 _ _ f34_11
  have f35_12 := k35 _ _ f34_12
  have f35_13 := k35 _ _ f34_13
  have f35_14 := k35 _ _ f34_14
  have f35_15 := k35 _ _ f34_15
  have f35_16 := k35 _ _ f34_16
  have f35_17 := k35 _ _ n34
  refine mS_steps (pc' := 155) (ls' := [.ref 279]) (st' := [.int (64 : Int32), .ref 279]) (mem' := m35) 2 rfl ?_
  refine mS_naL (a := 297) (N := 64) rfl l35 (by decide) (by decide) (by decide) (by decide) (fun m36 e36 l36 n36 k36 => ?_)
  have f36_0 := k36 _ _ f35_0
  have f36_1 := k36 _ _ f35_1
  have f36_2 := k36 _ _ f35_2
  have f36_3 := k36 _ _ f35_3
  have f36_4 := k36 _ _ f35_4
  have f36_5 := k36 _ _ f35_5
  have f36_6 := k36 _ _ f35_6
  have f36_7 := k36 _ _ f35_7
  have f36_8 := k36 _ _ f35_8
  have f36_9 := k36 _ _ f35_9
  have f36_10 := k36 _ _ f35_10
  have f36_11 := k36 _ _ f35_11
  have f36_12 := k36 _ _ f35_12
  have f36_13 := k36 _ _ f35_13
  have f36_14 := k36 _ _ f35_14
  have f36_15 := k36 _ _ f35_15
  have f36_16 := k36 _ _ f35_16
  have f36_17 := k36 _ _ f35_17
  refine mS_steps (pc' := 157) (ls' := [.ref 279]) (st' := [.ref 297, .ref 279]) (mem' := m36) 0 rfl ?_
  refine mS_prg rfl f36_0 (by decide) (by decide) ?_
  refine mS_genM (mem := m36) l36 (fun _ _ h => h) (fun m37 e37 l37 k37 => ?_)
  have f37_0 := k37 _ _ f36_0
  have f37_1 := k37 _ _ f36_1
  have f37_2 := k37 _ _ f36_2
  have f37_3 := k37 _ _ f36_3
  have f37_4 := k37 _ _ f36_4
  have f37_5 := k37 _ _ f36_5
  have f37_6 := k37 _ _ f36_6
  have f37_7 := k37 _ _ f36_7
  have f37_8 := k37 _ _ f36_8
  have f37_9 := k37 _ _ f36_9
  have f37_10 := k37 _ _ f36_10
  have f37_11 := k37 _ _ f36_11
  have f37_12 := k37 _ _ f36_12
  have f37_13 := k37 _ _ f36_13
  have f37_14 := k37 _ _ f36_14
  have f37_15 := k37 _ _ f36_15
  have f37_16 := k37 _ _ f36_16
  have f37_17 := k37 _ _ f36_17
  have f37_18 := k37 _ _ n36
  refine mS_steps (pc' := 163) (ls' := [.ref 279]) (st' := [.int (64 : Int32), .ref 279]) (mem' := m37) 2 rfl ?_
  refine mS_naL (a := 298) (N := 64) rfl l37 (by decide) (by decide) (by decide) (by decide) (fun m38 e38 l38 n38 k38 => ?_)
  have f38_0 := k38 _ _ f37_0
  have f38_1 := k38 _ _ f37_1
  have f38_2 := k38 _ _ f37_2
  have f38_3 := k38 _ _ f37_3
  have f38_4 := k38 _ _ f37_4
  have f38_5 := k38 _ _ f37_5
  have f38_6 := k38 _ _ f37_6
  have f38_7 := k38 _ _ f37_7
  have f38_8 := k38 _ _ f37_8
  have f38_9 := k38 _ _ f37_9
  have f38_10 := k38 _ _ f37_10
  have f38_11 := k38 _ _ f37_11
  have f38_12 := k38 _ _ f37_12
  have f38_13 := k38 _ _ f37_13
  have f38_14 := k38 _ _ f37_14
  have f38_15 := k38 _ _ f37_15
  have f38_16 := k38 _ _ f37_16
  have f38_17 := k38 _ _ f37_17
  have f38_18 := k38 _ _ f37_18
  refine mS_steps (pc' := 165) (ls' := [.ref 279]) (st' := [.ref 298, .ref 279]) (mem' := m38) 0 rfl ?_
  refine mS_prg rfl f38_0 (by decide) (by decide) ?_
  refine mS_genM (mem := m38) l38 (fun _ _ h => h) (fun m39 e39 l39 k39 => ?_)
  have f39_0 := k39 _ _ f38_0
  have f39_1 := k39 _ _ f38_1
  have f39_2 := k39 _ _ f38_2
  have f39_3 := k39 _ _ f38_3
  have f39_4 := k39 _ _ f38_4
  have f39_5 := k39 _ _ f38_5
  have f39_6 := k39 _ _ f38_6
  have f39_7 := k39 _ _ f38_7
  have f39_8 := k39 _ _ f38_8
  have f39_9 := k39 _ _ f38_9
  have f39_10 := k39 _ _ f38_10
  have f39_11 := k39 _ _ f38_11
  have f39_12 := k39 _ _ f38_12
  have f39_13 := k39 _ _ f38_13
  have f39_14 := k39 _ _ f38_14
  have f39_15 := k39 _ _ f38_15
  have f39_16 := k39 _ _ f38_16
  have f39_17 := k39 _ _ f38_17
  have f39_18 := k39 _ _ f38_18
  have f39_19 := k39 _ _ n38
  refine mS_steps (pc' := 172) (ls' := [.ref 279]) (st' := [.int (512 : Int32), .ref 279]) (mem' := m39) 2 rfl ?_
  refine mS_naL (a := 299) (N := 512) rfl l39 (by decide) (by decide) (by decide) (by decide) (fun m40 e40 l40 n40 k40 => ?_)
  have f40_0 := k40 _ _ f39_0
  have f40_1 := k40 _ _ f39_1
  have f40_2 := k40 _ _ f39_2
  have f40_3 := k40 _ _ f39_3
  have f40_4 := k40 _ _ f39_4
  have f40_5 := k40 _ _ f39_5
  have f40_6 := k40 _ _ f39_6
  have f40_7 := k40 _ _ f39_7
  have f40_8 := k40 _ _ f39_8
  have f40_9 := k40 _ _ f39_9
  have f40_10 := k40 _ _ f39_10
  have f40_11 := k40 _ _ f39_11
  have f40_12 := k40 _ _ f39_12
  have f40_13 := k40 _ _ f39_13
  have f40_14 := k40 _ _ f39_14
  have f40_15 := k40 _ _ f39_15
  have f40_16 := k40 _ _ f39_16
  have f40_17 := k40 _ _ f39_17
  have f40_18 := k40 _ _ f39_18
  have f40_19 := k40 _ _ f39_19
  refine mS_steps (pc' := 174) (ls' := [.ref 279]) (st' := [.ref 299, .ref 279]) (mem' := m40) 0 rfl ?_
  refine mS_prg rfl f40_0 (by decide) (by decide) ?_
  refine mS_genM (mem := m40) l40 (fun _ _ h => h) (fun m41 e41 l41 k41 => ?_)
  have f41_0 := k41 _ _ f40_0
  have f41_1 := k41 _ _ f40_1
  have f41_2 := k41 _ _ f40_2
  have f41_3 := k41 _ _ f40_3
  have f41_4 := k41 _ _ f40_4
  have f41_5 := k41 _ _ f40_5
  have f41_6 := k41 _ _ f40_6
  have f41_7 := k41 _ _ f40_7
  have f41_8 := k41 _ _ f40_8
  have f41_9 := k41 _ _ f40_9
  have f41_10 := k41 _ _ f40_10
  have f41_11 := k41 _ _ f40_11
  have f41_12 := k41 _ _ f40_12
  have f41_13 := k41 _ _ f40_13
  have f41_14 := k41 _ _ f40_14
  have f41_15 := k41 _ _ f40_15
  have f41_16 := k41 _ _ f40_16
  have f41_17 := k41 _ _ f40_17
  have f41_18 := k41 _ _ f40_18
  have f41_19 := k41 _ _ f40_19
  have f41_20 := k41 _ _ n40
  refine mS_steps (pc' := 180) (ls' := [.ref 279]) (st' := [.int (64 : Int32), .ref 279]) (mem' := m41) 2 rfl ?_
  refine mS_naL (a := 300) (N := 64) rfl l41 (by decide) (by decide) (by decide) (by decide) (fun m42 e42 l42 n42 k42 => ?_)
  have f42_0 := k42 _ _ f41_0
  have f42_1 := k42 _ _ f41_1
  have f42_2 := k42 _ _ f41_2
  have f42_3 := k42 _ _ f41_3
  have f42_4 := k42 _ _ f41_4
  have f42_5 := k42 _ _ f41_5
  have f42_6 := k42 _ _ f41_6
  have f42_7 := k42 _ _ f41_7
  have f42_8 := k42 _ _ f41_8
  have f42_9 := k42 _ _ f41_9
  have f42_10 := k42 _ _ f41_10
  have f42_11 := k42 _ _ f41_11
  have f42_12 := k42 _ _ f41_12
  have f42_13 := k42 _ _ f41_13
  have f42_14 := k42 _ _ f41_14
  have f42_15 := k42 _ _ f41_15
  have f42_16 := k42 _ _ f41_16
  have f42_17 := k42 _ _ f41_17
  have f42_18 := k42 _ _ f41_18
  have f42_19 := k42 _ _ f41_19
  have f42_20 := k42 _ _ f41_20
  refine mS_steps (pc' := 182) (ls' := [.ref 279]) (st' := [.ref 300, .ref 279]) (mem' := m42) 0 rfl ?_
  refine mS_prg rfl f42_0 (by decide) (by decide) ?_
  refine mS_genM (mem := m42) l42 (fun _ _ h => h) (fun m43 e43 l43 k43 => ?_)
  have f43_0 := k43 _ _ f42_0
  have f43_1 := k43 _ _ f42_1
  have f43_2 := k43 _ _ f42_2
  have f43_3 := k43 _ _ f42_3
  have f43_4 := k43 _ _ f42_4
  have f43_5 := k43 _ _ f42_5
  have f43_6 := k43 _ _ f42_6
  have f43_7 := k43 _ _ f42_7
  have f43_8 := k43 _ _ f42_8
  have f43_9 := k43 _ _ f42_9
  have f43_10 := k43 _ _ f42_10
  have f43_11 := k43 _ _ f42_11
  have f43_12 := k43 _ _ f42_12
  have f43_13 := k43 _ _ f42_13
  have f43_14 := k43 _ _ f42_14
  have f43_15 := k43 _ _ f42_15
  have f43_16 := k43 _ _ f42_16
  have f43_17 := k43 _ _ f42_17
  have f43_18 := k43 _ _ f42_18
  have f43_19 := k43 _ _ f42_19
  have f43_20 := k43 _ _ f42_20
  have f43_21 := k43 _ _ n42
  refine mS_steps (pc' := 188) (ls' := [.ref 279]) (st' := [.int (64 : Int32), .ref 279]) (mem' := m43) 2 rfl ?_
  refine mS_naL (a := 301) (N := 64) rfl l43 (by decide) (by decide) (by decide) (by decide) (fun m44 e44 l44 n44 k44 => ?_)
  have f44_0 := k44 _ _ f43_0
  have f44_1 := k44 _ _ f43_1
  have f44_2 := k44 _ _ f43_2
  have f44_3 := k44 _ _ f43_3
  have f44_4 := k44 _ _ f43_4
  have f44_5 := k44 _ _ f43_5
  have f44_6 := k44 _ _ f43_6
  have f44_7 := k44 _ _ f43_7
  have f44_8 := k44 _ _ f43_8
  have f44_9 := k44 _ _ f43_9
  have f44_10 := k44 _ _ f43_10
  have f44_11 := k44 _ _ f43_11
  have f44_12 := k44 _ _ f43_12
  have f44_13 := k44 _ _ f43_13
  have f44_14 := k44 _ _ f43_14
  have f44_15 := k44 _ _ f43_15
  have f44_16 := k44 _ _ f43_16
  have f44_17 := k44 _ _ f43_17
  have f44_18 := k44 _ _ f43_18
  have f44_19 := k44 _ _ f43_19
  have f44_20 := k44 _ _ f43_20
  have f44_21 := k44 _ _ f43_21
  refine mS_steps (pc' := 190) (ls' := [.ref 279]) (st' := [.ref 301, .ref 279]) (mem' := m44) 0 rfl ?_
  refine mS_prg rfl f44_0 (by decide) (by decide) ?_
  refine mS_genM (mem := m44) l44 (fun _ _ h => h) (fun m45 e45 l45 k45 => ?_)
  have f45_0 := k45 _ _ f44_0
  have f45_1 := k45 _ _ f44_1
  have f45_2 := k45 _ _ f44_2
  have f45_3 := k45 _ _ f44_3
  have f45_4 := k45 _ _ f44_4
  have f45_5 := k45 _ _ f44_5
  have f45_6 := k45 _ _ f44_6
  have f45_7 := k45 _ _ f44_7
  have f45_8 := k45 _ _ f44_8
  have f45_9 := k45 _ _ f44_9
  have f45_10 := k45 _ _ f44_10
  have f45_11 := k45 _ _ f44_11
  have f45_12 := k45 _ _ f44_12
  have f45_13 := k45 _ _ f44_13
  have f45_14 := k45 _ _ f44_14
  have f45_15 := k45 _ _ f44_15
  have f45_16 := k45 _ _ f44_16
  have f45_17 := k45 _ _ f44_17
  have f45_18 := k45 _ _ f44_18
  have f45_19 := k45 _ _ f44_19
  have f45_20 := k45 _ _ f44_20
  have f45_21 := k45 _ _ f44_21
  have f45_22 := k45 _ _ n44
  refine mS_steps (pc' := 196) (ls' := [.ref 279]) (st' := [.int (8 : Int32), .ref 279]) (mem' := m45) 2 rfl ?_
  refine mS_naL (a := 302) (N := 8) rfl l45 (by decide) (by decide) (by decide) (by decide) (fun m46 e46 l46 n46 k46 => ?_)
  have f46_0 := k46 _ _ f45_0
  have f46_1 := k46 _ _ f45_1
  have f46_2 := k46 _ _ f45_2
  have f46_3 := k46 _ _ f45_3
  have f46_4 := k46 _ _ f45_4
  have f46_5 := k46 _ _ f45_5
  have f46_6 := k46 _ _ f45_6
  have f46_7 := k46 _ _ f45_7
  have f46_8 := k46 _ _ f45_8
  have f46_9 := k46 _ _ f45_9
  have f46_10 := k46 _ _ f45_10
  have f46_11 := k46 _ _ f45_11
  have f46_12 := k46 _ _ f45_12
  have f46_13 := k46 _ _ f45_13
  have f46_14 := k46 _ _ f45_14
  have f46_15 := k46 _ _ f45_15
  have f46_16 := k46 _ _ f45_16
  have f46_17 := k46 _ _ f45_17
  have f46_18 := k46 _ _ f45_18
  have f46_19 := k46 _ _ f45_19
  have f46_20 := k46 _ _ f45_20
  have f46_21 := k46 _ _ f45_21
  have f46_22 := k46 _ _ f45_22
  refine mS_steps (pc' := 198) (ls' := [.ref 279]) (st' := [.ref 302, .ref 279]) (mem' := m46) 0 rfl ?_
  refine mS_prg rfl f46_0 (by decide) (by decide) ?_
  refine mS_genM (mem := m46) l46 (fun _ _ h => h) (fun m47 e47 l47 k47 => ?_)
  have f47_0 := k47 _ _ f46_0
  have f47_1 := k47 _ _ f46_1
  have f47_2 := k47 _ _ f46_2
  have f47_3 := k47 _ _ f46_3
  have f47_4 := k47 _ _ f46_4
  have f47_5 := k47 _ _ f46_5
  have f47_6 := k47 _ _ f46_6
  have f47_7 := k47 _ _ f46_7
  have f47_8 := k47 _ _ f46_8
  have f47_9 := k47 _ _ f46_9
  have f47_10 := k47 _ _ f46_10
  have f47_11 := k47 _ _ f46_11
  have f47_12 := k47 _ _ f46_12
  have f47_13 := k47 _ _ f46_13
  have f47_14 := k47 _ _ f46_14
  have f47_15 := k47 _ _ f46_15
  have f47_16 := k47 _ _ f46_16
  have f47_17 := k47 _ _ f46_17
  have f47_18 := k47 _ _ f46_18
  have f47_19 := k47 _ _ f46_19
  have f47_20 := k47 _ _ f46_20
  have f47_21 := k47 _ _ f46_21
  have f47_22 := k47 _ _ f46_22
  have f47_23 := k47 _ _ n46
  refine mS_steps (pc' := 204) (ls' := [.ref 279]) (st' := [.int (8 : Int32), .ref 279]) (mem' := m47) 2 rfl ?_
  refine mS_naL (a := 303) (N := 8) rfl l47 (by decide) (by decide) (by decide) (by decide) (fun m48 e48 l48 n48 k48 => ?_)
  have f48_0 := k48 _ _ f47_0
  have f48_1 := k48 _ _ f47_1
  have f48_2 := k48 _ _ f47_2
  have f48_3 := k48 _ _ f47_3
  have f48_4 := k48 _ _ f47_4
  have f48_5 := k48 _ _ f47_5
  have f48_6 := k48 _ _ f47_6
  have f48_7 := k48 _ _ f47_7
  have f48_8 := k48 _ _ f47_8
  have f48_9 := k48 _ _ f47_9
  have f48_10 := k48 _ _ f47_10
  have f48_11 := k48 _ _ f47_11
  have f48_12 := k48 _ _ f47_12
  have f48_13 := k48 _ _ f47_13
  have f48_14 := k48 _ _ f47_14
  have f48_15 := k48 _ _ f47_15
  have f48_16 := k48 _ _ f47_16
  have f48_17 := k48 _ _ f47_17
  have f48_18 := k48 _ _ f47_18
  have f48_19 := k48 _ _ f47_19
  have f48_20 := k48 _ _ f47_20
  have f48_21 := k48 _ _ f47_21
  have f48_22 := k48 _ _ f47_22
  have f48_23 := k48 _ _ f47_23
  refine mS_steps (pc' := 206) (ls' := [.ref 279]) (st' := [.ref 303, .ref 279]) (mem' := m48) 0 rfl ?_
  refine mS_prg rfl f48_0 (by decide) (by decide) ?_
  refine mS_genM (mem := m48) l48 (fun _ _ h => h) (fun m49 e49 l49 k49 => ?_)
  have f49_0 := k49 _ _ f48_0
  have f49_1 := k49 _ _ f48_1
  have f49_2 := k49 _ _ f48_2
  have f49_3 := k49 _ _ f48_3
  have f49_4 := k49 _ _ f48_4
  have f49_5 := k49 _ _ f48_5
  have f49_6 := k49 _ _ f48_6
  have f49_7 := k49 _ _ f48_7
  have f49_8 := k49 _ _ f48_8
  have f49_9 := k49 _ _ f48_9
  have f49_10 := k49 _ _ f48_10
  have f49_11 := k49 _ _ f48_11
  have f49_12 := k49 _ _ f48_12
  have f49_13 := k49 _ _ f48_13
  have f49_14 := k49 _ _ f48_14
  have f49_15 := k49 _ _ f48_15
  have f49_16 := k49 _ _ f48_16
  have f49_17 := k49 _ _ f48_17
  have f49_18 := k49 _ _ f48_18
  have f49_19 := k49 _ _ f48_19
  have f49_20 := k49 _ _ f48_20
  have f49_21 := k49 _ _ f48_21
  have f49_22 := k49 _ _ f48_22
  have f49_23 := k49 _ _ f48_23
  have f49_24 := k49 _ _ n48
  refine mS_steps (pc' := 212) (ls' := [.ref 279]) (st' := [.int (8 : Int32), .ref 279]) (mem' := m49) 2 rfl ?_
  refine mS_naL (a := 304) (N := 8) rfl l49 (by decide) (by decide) (by decide) (by decide) (fun m50 e50 l50 n50 k50 => ?_)
  have f50_0 := k50 _ _ f49_0
  have f50_1 := k50 _ _ f49_1
  have f50_2 := k50 _ _ f49_2
  have f50_3 := k50 _ _ f49_3
  have f50_4 := k50 _ _ f49_4
  have f50_5 := k50 _ _ f49_5
  have f50_6 := k50 _ _ f49_6
  have f50_7 := k50 _ _ f49_7
  have f50_8 := k50 _ _ f49_8
  have f50_9 := k50 _ _ f49_9
  have f50_10 := k50 _ _ f49_10
  have f50_11 := k50 _ _ f49_11
  have f50_12 := k50 _ _ f49_12
  have f50_13 := k50 _ _ f49_13
  have f50_14 := k50 _ _ f49_14
  have f50_15 := k50 _ _ f49_15
  have f50_16 := k50 _ _ f49_16
  have f50_17 := k50 _ _ f49_17
  have f50_18 := k50 _ _ f49_18
  have f50_19 := k50 _ _ f49_19
  have f50_20 := k50 _ _ f49_20
  have f50_21 := k50 _ _ f49_21
  have f50_22 := k50 _ _ f49_22
  have f50_23 := k50 _ _ f49_23
  have f50_24 := k50 _ _ f49_24
  refine mS_steps (pc' := 214) (ls' := [.ref 279]) (st' := [.ref 304, .ref 279]) (mem' := m50) 0 rfl ?_
  refine mS_prg rfl f50_0 (by decide) (by decide) ?_
  refine mS_genM (mem := m50) l50 (fun _ _ h => h) (fun m51 e51 l51 k51 => ?_)
  have f51_0 := k51 _ _ f50_0
  have f51_1 := k51 _ _ f50_1
  have f51_2 := k51 _ _ f50_2
  have f51_3 := k51 _ _ f50_3
  have f51_4 := k51 _ _ f50_4
  have f51_5 := k51 _ _ f50_5
  have f51_6 := k51 _ _ f50_6
  have f51_7 := k51 _ _ f50_7
  have f51_8 := k51 _ _ f50_8
  have f51_9 := k51 _ _ f50_9
  have f51_10 := k51 _ _ f50_10
  have f51_11 := k51 _ _ f50_11
  have f51_12 := k51 _ _ f50_12
  have f51_13 := k51 _ _ f50_13
  have f51_14 := k51 _ _ f50_14
  have f51_15 := k51 _ _ f50_15
  have f51_16 := k51 _ _ f50_16
  have f51_17 := k51 _ _ f50_17
  have f51_18 := k51 _ _ f50_18
  have f51_19 := k51 _ _ f50_19
  have f51_20 := k51 _ _ f50_20
  have f51_21 := k51 _ _ f50_21
  have f51_22 := k51 _ _ f50_22
  have f51_23 := k51 _ _ f50_23
  have f51_24 := k51 _ _ f50_24
  have f51_25 := k51 _ _ n50
  refine mS_steps (pc' := 221) (ls' := [.ref 279]) (st' := [.int (160 : Int32), .ref 279]) (mem' := m51) 2 rfl ?_
  refine mS_naL (a := 305) (N := 160) rfl l51 (by decide) (by decide) (by decide) (by decide) (fun m52 e52 l52 n52 k52 => ?_)
  have f52_0 := k52 _ _ f51_0
  have f52_1 := k52 _ _ f51_1
  have f52_2 := k52 _ _ f51_2
  have f52_3 := k52 _ _ f51_3
  have f52_4 := k52 _ _ f51_4
  have f52_5 := k52 _ _ f51_5
  have f52_6 := k52 _ _ f51_6
  have f52_7 := k52 _ _ f51_7
  have f52_8 := k52 _ _ f51_8
  have f52_9 := k52 _ _ f51_9
  have f52_10 := k52 _ _ f51_10
  have f52_11 := k52 _ _ f51_11
  have f52_12 := k52 _ _ f51_12
  have f52_13 := k52 _ _ f51_13
  have f52_14 := k52 _ _ f51_14
  have f52_15 := k52 _ _ f51_15
  have f52_16 := k52 _ _ f51_16
  have f52_17 := k52 _ _ f51_17
  have f52_18 := k52 _ _ f51_18
  have f52_19 := k52 _ _ f51_19
  have f52_20 := k52 _ _ f51_20
  have f52_21 := k52 _ _ f51_21
  have f52_22 := k52 _ _ f51_22
  have f52_23 := k52 _ _ f51_23
  have f52_24 := k52 _ _ f51_24
  have f52_25 := k52 _ _ f51_25
  refine mS_steps (pc' := 223) (ls' := [.ref 279]) (st' := [.ref 305, .ref 279]) (mem' := m52) 0 rfl ?_
  refine mS_prg rfl f52_0 (by decide) (by decide) ?_
  refine mS_genM (mem := m52) l52 (fun _ _ h => h) (fun m53 e53 l53 k53 => ?_)
  have f53_0 := k53 _ _ f52_0
  have f53_1 := k53 _ _ f52_1
  have f53_2 := k53 _ _ f52_2
  have f53_3 := k53 _ _ f52_3
  have f53_4 := k53 _ _ f52_4
  have f53_5 := k53 _ _ f52_5
  have f53_6 := k53 _ _ f52_6
  have f53_7 := k53 _ _ f52_7
  have f53_8 := k53 _ _ f52_8
  have f53_9 := k53 _ _ f52_9
  have f53_10 := k53 _ _ f52_10
  have f53_11 := k53 _ _ f52_11
  have f53_12 := k53 _ _ f52_12
  have f53_13 := k53 _ _ f52_13
  have f53_14 := k53 _ _ f52_14
  have f53_15 := k53 _ _ f52_15
  have f53_16 := k53 _ _ f52_16
  have f53_17 := k53 _ _ f52_17
  have f53_18 := k53 _ _ f52_18
  have f53_19 := k53 _ _ f52_19
  have f53_20 := k53 _ _ f52_20
  have f53_21 := k53 _ _ f52_21
  have f53_22 := k53 _ _ f52_22
  have f53_23 := k53 _ _ f52_23
  have f53_24 := k53 _ _ f52_24
  have f53_25 := k53 _ _ f52_25
  have f53_26 := k53 _ _ n52
  refine mS_steps (pc' := 229) (ls' := [.ref 279]) (st' := [.int (16 : Int32), .ref 279]) (mem' := m53) 2 rfl ?_
  refine mS_naL (a := 306) (N := 16) rfl l53 (by decide) (by decide) (by decide) (by decide) (fun m54 e54 l54 n54 k54 => ?_)
  have f54_0 := k54 _ _ f53_0
  have f54_1 := k54 _ _ f53_1
  have f54_2 := k54 _ _ f53_2
  have f54_3 := k54 _ _ f53_3
  have f54_4 := k54 _ _ f53_4
  have f54_5 := k54 _ _ f53_5
  have f54_6 := k54 _ _ f53_6
  have f54_7 := k54 _ _ f53_7
  have f54_8 := k54 _ _ f53_8
  have f54_9 := k54 _ _ f53_9
  have f54_10 := k54 _ _ f53_10
  have f54_11 := k54 _ _ f53_11
  have f54_12 := k54 _ _ f53_12
  have f54_13 := k54 _ _ f53_13
  have f54_14 := k54 _ _ f53_14
  have f54_15 := k54 _ _ f53_15
  have f54_16 := k54 _ _ f53_16
  have f54_17 := k54 _ _ f53_17
  have f54_18 := k54 _ _ f53_18
  have f54_19 := k54 _ _ f53_19
  have f54_20 := k54 _ _ f53_20
  have f54_21 := k54 _ _ f53_21
  have f54_22 := k54 _ _ f53_22
  have f54_23 := k54 _ _ f53_23
  have f54_24 := k54 _ _ f53_24
  have f54_25 := k54 _ _ f53_25
  have f54_26 := k54 _ _ f53_26
  refine mS_steps (pc' := 231) (ls' := [.ref 279]) (st' := [.ref 306, .ref 279]) (mem' := m54) 0 rfl ?_
  refine mS_prg rfl f54_0 (by decide) (by decide) ?_
  refine mS_genM (mem := m54) l54 (fun _ _ h => h) (fun m55 e55 l55 k55 => ?_)
  have f55_0 := k55 _ _ f54_0
  have f55_1 := k55 _ _ f54_1
  have f55_2 := k55 _ _ f54_2
  have f55_3 := k55 _ _ f54_3
  have f55_4 := k55 _ _ f54_4
  have f55_5 := k55 _ _ f54_5
  have f55_6 := k55 _ _ f54_6
  have f55_7 := k55 _ _ f54_7
  have f55_8 := k55 _ _ f54_8
  have f55_9 := k55 _ _ f54_9
  have f55_10 := k55 _ _ f54_10
  have f55_11 := k55 _ _ f54_11
  have f55_12 := k55 _ _ f54_12
  have f55_13 := k55 _ _ f54_13
  have f55_14 := k55 _ _ f54_14
  have f55_15 := k55 _ _ f54_15
  have f55_16 := k55 _ _ f54_16
  have f55_17 := k55 _ _ f54_17
  have f55_18 := k55 _ _ f54_18
  have f55_19 := k55 _ _ f54_19
  have f55_20 := k55 _ _ f54_20
  have f55_21 := k55 _ _ f54_21
  have f55_22 := k55 _ _ f54_22
  have f55_23 := k55 _ _ f54_23
  have f55_24 := k55 _ _ f54_24
  have f55_25 := k55 _ _ f54_25
  have f55_26 := k55 _ _ f54_26
  have f55_27 := k55 _ _ n54
  refine mS_steps (pc' := 237) (ls' := [.ref 279]) (st' := [.int (8 : Int32), .ref 279]) (mem' := m55) 2 rfl ?_
  refine mS_naL (a := 307) (N := 8) rfl l55 (by decide) (by decide) (by decide) (by decide) (fun m56 e56 l56 n56 k56 => ?_)
  have f56_0 := k56 _ _ f55_0
  have f56_1 := k56 _ _ f55_1
  have f56_2 := k56 _ _ f55_2
  have f56_3 := k56 _ _ f55_3
  have f56_4 := k56 _ _ f55_4
  have f56_5 := k56 _ _ f55_5
  have f56_6 := k56 _ _ f55_6
  have f56_7 := k56 _ _ f55_7
  have f56_8 := k56 _ _ f55_8
  have f56_9 := k56 _ _ f55_9
  have f56_10 := k56 _ _ f55_10
  have f56_11 := k56 _ _ f55_11
  have f56_12 := k56 _ _ f55_12
  have f56_13 := k56 _ _ f55_13
  have f56_14 := k56 _ _ f55_14
  have f56_15 := k56 _ _ f55_15
  have f56_16 := k56 _ _ f55_16
  have f56_17 := k56 _ _ f55_17
  have f56_18 := k56 _ _ f55_18
  have f56_19 := k56 _ _ f55_19
  have f56_20 := k56 _ _ f55_20
  have f56_21 := k56 _ _ f55_21
  have f56_22 := k56 _ _ f55_22
  have f56_23 := k56 _ _ f55_23
  have f56_24 := k56 _ _ f55_24
  have f56_25 := k56 _ _ f55_25
  have f56_26 := k56 _ _ f55_26
  have f56_27 := k56 _ _ f55_27
  refine mS_steps (pc' := 239) (ls' := [.ref 279]) (st' := [.ref 307, .ref 279]) (mem' := m56) 0 rfl ?_
  refine mS_prg rfl f56_0 (by decide) (by decide) ?_
  refine mS_genM (mem := m56) l56 (fun _ _ h => h) (fun m57 e57 l57 k57 => ?_)
  have f57_0 := k57 _ _ f56_0
  have f57_1 := k57 _ _ f56_1
  have f57_2 := k57 _ _ f56_2
  have f57_3 := k57 _ _ f56_3
  have f57_4 := k57 _ _ f56_4
  have f57_5 := k57 _ _ f56_5
  have f57_6 := k57 _ _ f56_6
  have f57_7 := k57 _ _ f56_7
  have f57_8 := k57 _ _ f56_8
  have f57_9 := k57 _ _ f56_9
  have f57_10 := k57 _ _ f56_10
  have f57_11 := k57 _ _ f56_11
  have f57_12 := k57 _ _ f56_12
  have f57_13 := k57 _ _ f56_13
  have f57_14 := k57 _ _ f56_14
  have f57_15 := k57 _ _ f56_15
  have f57_16 := k57 _ _ f56_16
  have f57_17 := k57 _ _ f56_17
  have f57_18 := k57 _ _ f56_18
  have f57_19 := k57 _ _ f56_19
  have f57_20 := k57 _ _ f56_20
  have f57_21 := k57 _ _ f56_21
  have f57_22 := k57 _ _ f56_22
  have f57_23 := k57 _ _ f56_23
  have f57_24 := k57 _ _ f56_24
  have f57_25 := k57 _ _ f56_25
  have f57_26 := k57 _ _ f56_26
  have f57_27 := k57 _ _ f56_27
  have f57_28 := k57 _ _ n56
  refine mS_steps (pc' := 245) (ls' := [.ref 279]) (st' := [.int (8 : Int32), .ref 279]) (mem' := m57) 2 rfl ?_
  refine mS_naL (a := 308) (N := 8) rfl l57 (by decide) (by decide) (by decide) (by decide) (fun m58 e58 l58 n58 k58 => ?_)
  have f58_0 := k58 _ _ f57_0
  have f58_1 := k58 _ _ f57_1
  have f58_2 := k58 _ _ f57_2
  have f58_3 := k58 _ _ f57_3
  have f58_4 := k58 _ _ f57_4
  have f58_5 := k58 _ _ f57_5
  have f58_6 := k58 _ _ f57_6
  have f58_7 := k58 _ _ f57_7
  have f58_8 := k58 _ _ f57_8
  have f58_9 := k58 _ _ f57_9
  have f58_10 := k58 _ _ f57_10
  have f58_11 := k58 _ _ f57_11
  have f58_12 := k58 _ _ f57_12
  have f58_13 := k58 _ _ f57_13
  have f58_14 := k58 _ _ f57_14
  have f58_15 := k58 _ _ f57_15
  have f58_16 := k58 _ _ f57_16
  have f58_17 := k58 _ _ f57_17
  have f58_18 := k58 _ _ f57_18
  have f58_19 := k58 _ _ f57_19
  have f58_20 := k58 _ _ f57_20
  have f58_21 := k58 _ _ f57_21
  have f58_22 := k58 _ _ f57_22
  have f58_23 := k58 _ _ f57_23
  have f58_24 := k58 _ _ f57_24
  have f58_25 := k58 _ _ f57_25
  have f58_26 := k58 _ _ f57_26
  have f58_27 := k58 _ _ f57_27
  have f58_28 := k58 _ _ f57_28
  refine mS_steps (pc' := 247) (ls' := [.ref 279]) (st' := [.ref 308, .ref 279]) (mem' := m58) 0 rfl ?_
  refine mS_prg rfl f58_0 (by decide) (by decide) ?_
  refine mS_genM (mem := m58) l58 (fun _ _ h => h) (fun m59 e59 l59 k59 => ?_)
  have f59_0 := k59 _ _ f58_0
  have f59_1 := k59 _ _ f58_1
  have f59_2 := k59 _ _ f58_2
  have f59_3 := k59 _ _ f58_3
  have f59_4 := k59 _ _ f58_4
  have f59_5 := k59 _ _ f58_5
  have f59_6 := k59 _ _ f58_6
  have f59_7 := k59 _ _ f58_7
  have f59_8 := k59 _ _ f58_8
  have f59_9 := k59 _ _ f58_9
  have f59_10 := k59 _ _ f58_10
  have f59_11 := k59 _ _ f58_11
  have f59_12 := k59 _ _ f58_12
  have f59_13 := k59 _ _ f58_13
  have f59_14 := k59 _ _ f58_14
  have f59_15 := k59 _ _ f58_15
  have f59_16 := k59 _ _ f58_16
  have f59_17 := k59 _ _ f58_17
  have f59_18 := k59 _ _ f58_18
  have f59_19 := k59 _ _ f58_19
  have f59_20 := k59 _ _ f58_20
  have f59_21 := k59 _ _ f58_21
  have f59_22 := k59 _ _ f58_22
  have f59_23 := k59 _ _ f58_23
  have f59_24 := k59 _ _ f58_24
  have f59_25 := k59 _ _ f58_25
  have f59_26 := k59 _ _ f58_26
  have f59_27 := k59 _ _ f58_27
  have f59_28 := k59 _ _ f58_28
  have f59_29 := k59 _ _ n58
  refine mS_steps (pc' := 253) (ls' := [.ref 279]) (st' := [.int (32 : Int32), .ref 279]) (mem' := m59) 2 rfl ?_
  refine mS_naL (a := 309) (N := 32) rfl l59 (by decide) (by decide) (by decide) (by decide) (fun m60 e60 l60 n60 k60 => ?_)
  have f60_0 := k60 _ _ f59_0
  have f60_1 := k60 _ _ f59_1
  have f60_2 := k60 _ _ f59_2
  have f60_3 := k60 _ _ f59_3
  have f60_4 := k60 _ _ f59_4
  have f60_5 := k60 _ _ f59_5
  have f60_6 := k60 _ _ f59_6
  have f60_7 := k60 _ _ f59_7
  have f60_8 := k60 _ _ f59_8
  have f60_9 := k60 _ _ f59_9
  have f60_10 := k60 _ _ f59_10
  have f60_11 := k60 _ _ f59_11
  have f60_12 := k60 _ _ f59_12
  have f60_13 := k60 _ _ f59_13
  have f60_14 := k60 _ _ f59_14
  have f60_15 := k60 _ _ f59_15
  have f60_16 := k60 _ _ f59_16
  have f60_17 := k60 _ _ f59_17
  have f60_18 := k60 _ _ f59_18
  have f60_19 := k60 _ _ f59_19
  have f60_20 := k60 _ _ f59_20
  have f60_21 := k60 _ _ f59_21
  have f60_22 := k60 _ _ f59_22
  have f60_23 := k60 _ _ f59_23
  have f60_24 := k60 _ _ f59_24
  have f60_25 := k60 _ _ f59_25
  have f60_26 := k60 _ _ f59_26
  have f60_27 := k60 _ _ f59_27
  have f60_28 := k60 _ _ f59_28
  have f60_29 := k60 _ _ f59_29
  refine mS_steps (pc' := 255) (ls' := [.ref 279]) (st' := [.ref 309, .ref 279]) (mem' := m60) 0 rfl ?_
  refine mS_prg rfl f60_0 (by decide) (by decide) ?_
  refine mS_genM (mem := m60) l60 (fun _ _ h => h) (fun m61 e61 l61 k61 => ?_)
  have f61_0 := k61 _ _ f60_0
  have f61_1 := k61 _ _ f60_1
  have f61_2 := k61 _ _ f60_2
  have f61_3 := k61 _ _ f60_3
  have f61_4 := k61 _ _ f60_4
  have f61_5 := k61 _ _ f60_5
  have f61_6 := k61 _ _ f60_6
  have f61_7 := k61 _ _ f60_7
  have f61_8 := k61 _ _ f60_8
  have f61_9 := k61 _ _ f60_9
  have f61_10 := k61 _ _ f60_10
  have f61_11 := k61 _ _ f60_11
  have f61_12 := k61 _ _ f60_12
  have f61_13 := k61 _ _ f60_13
  have f61_14 := k61 _ _ f60_14
  have f61_15 := k61 _ _ f60_15
  have f61_16 := k61 _ _ f60_16
  have f61_17 := k61 _ _ f60_17
  have f61_18 := k61 _ _ f60_18
  have f61_19 := k61 _ _ f60_19
  have f61_20 := k61 _ _ f60_20
  have f61_21 := k61 _ _ f60_21
  have f61_22 := k61 _ _ f60_22
  have f61_23 := k61 _ _ f60_23
  have f61_24 := k61 _ _ f60_24
  have f61_25 := k61 _ _ f60_25
  have f61_26 := k61 _ _ f60_26
  have f61_27 := k61 _ _ f60_27
  have f61_28 := k61 _ _ f60_28
  have f61_29 := k61 _ _ f60_29
  have f61_30 := k61 _ _ n60
  refine mS_steps (pc' := 261) (ls' := [.ref 279]) (st' := [.int (16 : Int32), .ref 279]) (mem' := m61) 2 rfl ?_
  refine mS_naL (a := 310) (N := 16) rfl l61 (by decide) (by decide) (by decide) (by decide) (fun m62 e62 l62 n62 k62 => ?_)
  have f62_0 := k62 _ _ f61_0
  have f62_1 := k62 _ _ f61_1
  have f62_2 := k62 _ _ f61_2
  have f62_3 := k62 _ _ f61_3
  have f62_4 := k62 _ _ f61_4
  have f62_5 := k62 _ _ f61_5
  have f62_6 := k62 _ _ f61_6
  have f62_7 := k62 _ _ f61_7
  have f62_8 := k62 _ _ f61_8
  have f62_9 := k62 _ _ f61_9
  have f62_10 := k62 _ _ f61_10
  have f62_11 := k62 _ _ f61_11
  have f62_12 := k62 _ _ f61_12
  have f62_13 := k62 _ _ f61_13
  have f62_14 := k62 _ _ f61_14
  have f62_15 := k62 _ _ f61_15
  have f62_16 := k62 _ _ f61_16
  have f62_17 := k62 _ _ f61_17
  have f62_18 := k62 _ _ f61_18
  have f62_19 := k62 _ _ f61_19
  have f62_20 := k62 _ _ f61_20
  have f62_21 := k62 _ _ f61_21
  have f62_22 := k62 _ _ f61_22
  have f62_23 := k62 _ _ f61_23
  have f62_24 := k62 _ _ f61_24
  have f62_25 := k62 _ _ f61_25
  have f62_26 := k62 _ _ f61_26
  have f62_27 := k62 _ _ f61_27
  have f62_28 := k62 _ _ f61_28
  have f62_29 := k62 _ _ f61_29
  have f62_30 := k62 _ _ f61_30
  refine mS_steps (pc' := 263) (ls' := [.ref 279]) (st' := [.ref 310, .ref 279]) (mem' := m62) 0 rfl ?_
  refine mS_prg rfl f62_0 (by decide) (by decide) ?_
  refine mS_genM (mem := m62) l62 (fun _ _ h => h) (fun m63 e63 l63 k63 => ?_)
  have f63_0 := k63 _ _ f62_0
  have f63_1 := k63 _ _ f62_1
  have f63_2 := k63 _ _ f62_2
  have f63_3 := k63 _ _ f62_3
  have f63_4 := k63 _ _ f62_4
  have f63_5 := k63 _ _ f62_5
  have f63_6 := k63 _ _ f62_6
  have f63_7 := k63 _ _ f62_7
  have f63_8 := k63 _ _ f62_8
  have f63_9 := k63 _ _ f62_9
  have f63_10 := k63 _ _ f62_10
  have f63_11 := k63 _ _ f62_11
  have f63_12 := k63 _ _ f62_12
  have f63_13 := k63 _ _ f62_13
  have f63_14 := k63 _ _ f62_14
  have f63_15 := k63 _ _ f62_15
  have f63_16 := k63 _ _ f62_16
  have f63_17 := k63 _ _ f62_17
  have f63_18 := k63 _ _ f62_18
  have f63_19 := k63 _ _ f62_19
  have f63_20 := k63 _ _ f62_20
  have f63_21 := k63 _ _ f62_21
  have f63_22 := k63 _ _ f62_22
  have f63_23 := k63 _ _ f62_23
  have f63_24 := k63 _ _ f62_24
  have f63_25 := k63 _ _ f62_25
  have f63_26 := k63 _ _ f62_26
  have f63_27 := k63 _ _ f62_27
  have f63_28 := k63 _ _ f62_28
  have f63_29 := k63 _ _ f62_29
  have f63_30 := k63 _ _ f62_30
  have f63_31 := k63 _ _ n62
  refine mS_steps (pc' := 270) (ls' := [.ref 279]) (st' := [.int (2048 : Int32), .ref 279]) (mem' := m63) 2 rfl ?_
  refine mS_naL (a := 311) (N := 2048) rfl l63 (by decide) (by decide) (by decide) (by decide) (fun m64 e64 l64 n64 k64 => ?_)
  have f64_0 := k64 _ _ f63_0
  have f64_1 := k64 _ _ f63_1
  have f64_2 := k64 _ _ f63_2
  have f64_3 := k64 _ _ f63_3
  have f64_4 := k64 _ _ f63_4
  have f64_5 := k64 _ _ f63_5
  have f64_6 := k64 _ _ f63_6
  have f64_7 := k64 _ _ f63_7
  have f64_8 := k64 _ _ f63_8
  have f64_9 := k64 _ _ f63_9
  have f64_10 := k64 _ _ f63_10
  have f64_11 := k64 _ _ f63_11
  have f64_12 := k64 _ _ f63_12
  have f64_13 := k64 _ _ f63_13
  have f64_14 := k64 _ _ f63_14
  have f64_15 := k64 _ _ f63_15
  have f64_16 := k64 _ _ f63_16
  have f64_17 := k64 _ _ f63_17
  have f64_18 := k64 _ _ f63_18
  have f64_19 := k64 _ _ f63_19
  have f64_20 := k64 _ _ f63_20
  have f64_21 := k64 _ _ f63_21
  have f64_22 := k64 _ _ f63_22
  have f64_23 := k64 _ _ f63_23
  have f64_24 := k64 _ _ f63_24
  have f64_25 := k64 _ _ f63_25
  have f64_26 := k64 _ _ f63_26
  have f64_27 := k64 _ _ f63_27
  have f64_28 := k64 _ _ f63_28
  have f64_29 := k64 _ _ f63_29
  have f64_30 := k64 _ _ f63_30
  have f64_31 := k64 _ _ f63_31
  refine mS_steps (pc' := 272) (ls' := [.ref 279]) (st' := [.ref 311, .ref 279]) (mem' := m64) 0 rfl ?_
  refine mS_prg rfl f64_0 (by decide) (by decide) ?_
  refine mS_genM (mem := m64) l64 (fun _ _ h => h) (fun m65 e65 l65 k65 => ?_)
  have f65_0 := k65 _ _ f64_0
  have f65_1 := k65 _ _ f64_1
  have f65_2 := k65 _ _ f64_2
  have f65_3 := k65 _ _ f64_3
  have f65_4 := k65 _ _ f64_4
  have f65_5 := k65 _ _ f64_5
  have f65_6 := k65 _ _ f64_6
  have f65_7 := k65 _ _ f64_7
  have f65_8 := k65 _ _ f64_8
  have f65_9 := k65 _ _ f64_9
  have f65_10 := k65 _ _ f64_10
  have f65_11 := k65 _ _ f64_11
  have f65_12 := k65 _ _ f64_12
  have f65_13 := k65 _ _ f64_13
  have f65_14 := k65 _ _ f64_14
  have f65_15 := k65 _ _ f64_15
  have f65_16 := k65 _ _ f64_16
  have f65_17 := k65 _ _ f64_17
  have f65_18 := k65 _ _ f64_18
  have f65_19 := k65 _ _ f64_19
  have f65_20 := k65 _ _ f64_20
  have f65_21 := k65 _ _ f64_21
  have f65_22 := k65 _ _ f64_22
  have f65_23 := k65 _ _ f64_23
  have f65_24 := k65 _ _ f64_24
  have f65_25 := k65 _ _ f64_25
  have f65_26 := k65 _ _ f64_26
  have f65_27 := k65 _ _ f64_27
  have f65_28 := k65 _ _ f64_28
  have f65_29 := k65 _ _ f64_29
  have f65_30 := k65 _ _ f64_30
  have f65_31 := k65 _ _ f64_31
  have f65_32 := k65 _ _ n64
  refine mS_steps (pc' := 279) (ls' := [.ref 279]) (st' := [.int (256 : Int32), .ref 279]) (mem' := m65) 2 rfl ?_
  refine mS_naL (a := 312) (N := 256) rfl l65 (by decide) (by decide) (by decide) (by decide) (fun m66 e66 l66 n66 k66 => ?_)
  have f66_0 := k66 _ _ f65_0
  have f66_1 := k66 _ _ f65_1
  have f66_2 := k66 _ _ f65_2
  have f66_3 := k66 _ _ f65_3
  have f66_4 := k66 _ _ f65_4
  have f66_5 := k66 _ _ f65_5
  have f66_6 := k66 _ _ f65_6
  have f66_7 := k66 _ _ f65_7
  have f66_8 := k66 _ _ f65_8
  have f66_9 := k66 _ _ f65_9
  have f66_10 := k66 _ _ f65_10
  have f66_11 := k66 _ _ f65_11
  have f66_12 := k66 _ _ f65_12
  have f66_13 := k66 _ _ f65_13
  have f66_14 := k66 _ _ f65_14
  have f66_15 := k66 _ _ f65_15
  have f66_16 := k66 _ _ f65_16
  have f66_17 := k66 _ _ f65_17
  have f66_18 := k66 _ _ f65_18
  have f66_19 := k66 _ _ f65_19
  have f66_20 := k66 _ _ f65_20
  have f66_21 := k66 _ _ f65_21
  have f66_22 := k66 _ _ f65_22
  have f66_23 := k66 _ _ f65_23
  have f66_24 := k66 _ _ f65_24
  have f66_25 := k66 _ _ f65_25
  have f66_26 := k66 _ _ f65_26
  have f66_27 := k66 _ _ f65_27
  have f66_28 := k66 _ _ f65_28
  have f66_29 := k66 _ _ f65_29
  have f66_30 := k66 _ _ f65_30
  have f66_31 := k66 _ _ f65_31
  have f66_32 := k66 _ _ f65_32
  refine mS_steps (pc' := 281) (ls' := [.ref 279]) (st' := [.ref 312, .ref 279]) (mem' := m66) 0 rfl ?_
  refine mS_prg rfl f66_0 (by decide) (by decide) ?_
  refine mS_genM (mem := m66) l66 (fun _ _ h => h) (fun m67 e67 l67 k67 => ?_)
  have f67_0 := k67 _ _ f66_0
  have f67_1 := k67 _ _ f66_1
  have f67_2 := k67 _ _ f66_2
  have f67_3 := k67 _ _ f66_3
  have f67_4 := k67 _ _ f66_4
  have f67_5 := k67 _ _ f66_5
  have f67_6 := k67 _ _ f66_6
  have f67_7 := k67 _ _ f66_7
  have f67_8 := k67 _ _ f66_8
  have f67_9 := k67 _ _ f66_9
  have f67_10 := k67 _ _ f66_10
  have f67_11 := k67 _ _ f66_11
  have f67_12 := k67 _ _ f66_12
  have f67_13 := k67 _ _ f66_13
  have f67_14 := k67 _ _ f66_14
  have f67_15 := k67 _ _ f66_15
  have f67_16 := k67 _ _ f66_16
  have f67_17 := k67 _ _ f66_17
  have f67_18 := k67 _ _ f66_18
  have f67_19 := k67 _ _ f66_19
  have f67_20 := k67 _ _ f66_20
  have f67_21 := k67 _ _ f66_21
  have f67_22 := k67 _ _ f66_22
  have f67_23 := k67 _ _ f66_23
  have f67_24 := k67 _ _ f66_24
  have f67_25 := k67 _ _ f66_25
  have f67_26 := k67 _ _ f66_26
  have f67_27 := k67 _ _ f66_27
  have f67_28 := k67 _ _ f66_28
  have f67_29 := k67 _ _ f66_29
  have f67_30 := k67 _ _ f66_30
  have f67_31 := k67 _ _ f66_31
  have f67_32 := k67 _ _ f66_32
  have f67_33 := k67 _ _ n66
  refine mS_steps (pc' := 287) (ls' := [.ref 279]) (st' := [.int (28 : Int32), .ref 279]) (mem' := m67) 2 rfl ?_
  refine mS_naL (a := 313) (N := 28) rfl l67 (by decide) (by decide) (by decide) (by decide) (fun m68 e68 l68 n68 k68 => ?_)
  have f68_0 := k68 _ _ f67_0
  have f68_1 := k68 _ _ f67_1
  have f68_2 := k68 _ _ f67_2
  have f68_3 := k68 _ _ f67_3
  have f68_4 := k68 _ _ f67_4
  have f68_5 := k68 _ _ f67_5
  have f68_6 := k68 _ _ f67_6
  have f68_7 := k68 _ _ f67_7
  have f68_8 := k68 _ _ f67_8
  have f68_9 := k68 _ _ f67_9
  have f68_10 := k68 _ _ f67_10
  have f68_11 := k68 _ _ f67_11
  have f68_12 := k68 _ _ f67_12
  have f68_13 := k68 _ _ f67_13
  have f68_14 := k68 _ _ f67_14
  have f68_15 := k68 _ _ f67_15
  have f68_16 := k68 _ _ f67_16
  have f68_17 := k68 _ _ f67_17
  have f68_18 := k68 _ _ f67_18
  have f68_19 := k68 _ _ f67_19
  have f68_20 := k68 _ _ f67_20
  have f68_21 := k68 _ _ f67_21
  have f68_22 := k68 _ _ f67_22
  have f68_23 := k68 _ _ f67_23
  have f68_24 := k68 _ _ f67_24
  have f68_25 := k68 _ _ f67_25
  have f68_26 := k68 _ _ f67_26
  have f68_27 := k68 _ _ f67_27
  have f68_28 := k68 _ _ f67_28
  have f68_29 := k68 _ _ f67_29
  have f68_30 := k68 _ _ f67_30
  have f68_31 := k68 _ _ f67_31
  have f68_32 := k68 _ _ f67_32
  have f68_33 := k68 _ _ f67_33
  refine mS_steps (pc' := 289) (ls' := [.ref 279]) (st' := [.ref 313, .ref 279]) (mem' := m68) 0 rfl ?_
  refine mS_prg rfl f68_0 (by decide) (by decide) ?_
  refine mS_genM (mem := m68) l68 (fun _ _ h => h) (fun m69 e69 l69 k69 => ?_)
  have f69_0 := k69 _ _ f68_0
  have f69_1 := k69 _ _ f68_1
  have f69_2 := k69 _ _ f68_2
  have f69_3 := k69 _ _ f68_3
  have f69_4 := k69 _ _ f68_4
  have f69_5 := k69 _ _ f68_5
  have f69_6 := k69 _ _ f68_6
  have f69_7 := k69 _ _ f68_7
  have f69_8 := k69 _ _ f68_8
  have f69_9 := k69 _ _ f68_9
  have f69_10 := k69 _ _ f68_10
  have f69_11 := k69 _ _ f68_11
  have f69_12 := k69 _ _ f68_12
  have f69_13 := k69 _ _ f68_13
  have f69_14 := k69 _ _ f68_14
  have f69_15 := k69 _ _ f68_15
  have f69_16 := k69 _ _ f68_16
  have f69_17 := k69 _ _ f68_17
  have f69_18 := k69 _ _ f68_18
  have f69_19 := k69 _ _ f68_19
  have f69_20 := k69 _ _ f68_20
  have f69_21 := k69 _ _ f68_21
  have f69_22 := k69 _ _ f68_22
  have f69_23 := k69 _ _ f68_23
  have f69_24 := k69 _ _ f68_24
  have f69_25 := k69 _ _ f68_25
  have f69_26 := k69 _ _ f68_26
  have f69_27 := k69 _ _ f68_27
  have f69_28 := k69 _ _ f68_28
  have f69_29 := k69 _ _ f68_29
  have f69_30 := k69 _ _ f68_30
  have f69_31 := k69 _ _ f68_31
  have f69_32 := k69 _ _ f68_32
  have f69_33 := k69 _ _ f68_33
  have f69_34 := k69 _ _ n68
  refine mS_steps (pc' := 294) (ls' := [.ref 279]) (st' := [.int (4 : Int32), .ref 279]) (mem' := m69) 2 rfl ?_
  refine mS_naL (a := 314) (N := 4) rfl l69 (by decide) (by decide) (by decide) (by decide) (fun m70 e70 l70 n70 k70 => ?_)
  have f70_0 := k70 _ _ f69_0
  have f70_1 := k70 _ _ f69_1
  have f70_2 := k70 _ _ f69_2
  have f70_3 := k70 _ _ f69_3
  have f70_4 := k70 _ _ f69_4
  have f70_5 := k70 _ _ f69_5
  have f70_6 := k70 _ _ f69_6
  have f70_7 := k70 _ _ f69_7
  have f70_8 := k70 _ _ f69_8
  have f70_9 := k70 _ _ f69_9
  have f70_10 := k70 _ _ f69_10
  have f70_11 := k70 _ _ f69_11
  have f70_12 := k70 _ _ f69_12
  have f70_13 := k70 _ _ f69_13
  have f70_14 := k70 _ _ f69_14
  have f70_15 := k70 _ _ f69_15
  have f70_16 := k70 _ _ f69_16
  have f70_17 := k70 _ _ f69_17
  have f70_18 := k70 _ _ f69_18
  have f70_19 := k70 _ _ f69_19
  have f70_20 := k70 _ _ f69_20
  have f70_21 := k70 _ _ f69_21
  have f70_22 := k70 _ _ f69_22
  have f70_23 := k70 _ _ f69_23
  have f70_24 := k70 _ _ f69_24
  have f70_25 := k70 _ _ f69_25
  have f70_26 := k70 _ _ f69_26
  have f70_27 := k70 _ _ f69_27
  have f70_28 := k70 _ _ f69_28
  have f70_29 := k70 _ _ f69_29
  have f70_30 := k70 _ _ f69_30
  have f70_31 := k70 _ _ f69_31
  have f70_32 := k70 _ _ f69_32
  have f70_33 := k70 _ _ f69_33
  have f70_34 := k70 _ _ f69_34
  refine mS_steps (pc' := 296) (ls' := [.ref 279]) (st' := [.ref 314, .ref 279]) (mem' := m70) 0 rfl ?_
  refine mS_prg rfl f70_0 (by decide) (by decide) ?_
  refine mS_genM (mem := m70) l70 (fun _ _ h => h) (fun m71 e71 l71 k71 => ?_)
  have f71_0 := k71 _ _ f70_0
  have f71_1 := k71 _ _ f70_1
  have f71_2 := k71 _ _ f70_2
  have f71_3 := k71 _ _ f70_3
  have f71_4 := k71 _ _ f70_4
  have f71_5 := k71 _ _ f70_5
  have f71_6 := k71 _ _ f70_6
  have f71_7 := k71 _ _ f70_7
  have f71_8 := k71 _ _ f70_8
  have f71_9 := k71 _ _ f70_9
  have f71_10 := k71 _ _ f70_10
  have f71_11 := k71 _ _ f70_11
  have f71_12 := k71 _ _ f70_12
  have f71_13 := k71 _ _ f70_13
  have f71_14 := k71 _ _ f70_14
  have f71_15 := k71 _ _ f70_15
  have f71_16 := k71 _ _ f70_16
  have f71_17 := k71 _ _ f70_17
  have f71_18 := k71 _ _ f70_18
  have f71_19 := k71 _ _ f70_19
  have f71_20 := k71 _ _ f70_20
  have f71_21 := k71 _ _ f70_21
  have f71_22 := k71 _ _ f70_22
  have f71_23 := k71 _ _ f70_23
  have f71_24 := k71 _ _ f70_24
  have f71_25 := k71 _ _ f70_25
  have f71_26 := k71 _ _ f70_26
  have f71_27 := k71 _ _ f70_27
  have f71_28 := k71 _ _ f70_28
  have f71_29 := k71 _ _ f70_29
  have f71_30 := k71 _ _ f70_30
  have f71_31 := k71 _ _ f70_31
  have f71_32 := k71 _ _ f70_32
  have f71_33 := k71 _ _ f70_33
  have f71_34 := k71 _ _ f70_34
  have f71_35 := k71 _ _ n70
  refine mS_steps (pc' := 300) (ls' := [.ref 279]) (st' := [.ref 279]) (mem' := m71) 1 rfl ?_
  refine mS_getg (r := 286) rfl f71_0 (by decide) (by decide) (by subst_vars; rfl) ?_
  refine mS_steps (pc' := 315) (ls' := [.ref 279]) (st' := [.int (0 : Int32), .int (0 : Int32), .int (0 : Int32), .int (116 : Int32), .int (115 : Int32), .int (111 : Int32), .int (112 : Int32), .int (0 : Int32), .ref 286]) (mem' := m71) 8 rfl ?_
  refine mS_call (q := (326396 : Int64)) 12 7 [.int (112 : Int32), .int (111 : Int32), .int (115 : Int32), .int (116 : Int32), .int (0 : Int32), .int (0 : Int32), .int (0 : Int32)] [.int (0 : Int32), .ref 286] rfl rfl rfl ⟨_, _, _, rfl, rfl⟩ (Nat.le_of_ble_eq_true rfl) (Nat.le_of_ble_eq_true rfl) (by decide +kernel) (f_X11_letters_snd (112 : Int32) (111 : Int32) (115 : Int32) (116 : Int32) (0 : Int32) (0 : Int32) (0 : Int32) m71) ?_
  refine mS_steps (pc' := 318) (ls' := [.ref 279]) (st' := [.long (326396 : Int64), .int (0 : Int32), .ref 286]) (mem' := m71) 0 rfl ?_
  refine mS_steps (pc' := 318) (ls' := [.ref 279]) (st' := [.long (326396 : Int64), .int (0 : Int32), .ref 286]) (mem' := m71) 0 rfl ?_
  refine mS_ljg (c := 0) rfl f71_7 (by decide) (by decide) (by decide) ?_
  refine mS_genM (mem := m71) l71 (fun _ _ h => h) (fun m72 e72 l72 k72 => ?_)
  have f72_0 := k72 _ _ f71_0
  have f72_1 := k72 _ _ f71_1
  have f72_2 := k72 _ _ f71_2
  have f72_3 := k72 _ _ f71_3
  have f72_4 := k72 _ _ f71_4
  have f72_5 := k72 _ _ f71_5
  have f72_6 := k72 _ _ f71_6
  have f72_7 := k72 _ _ f71_7
  have f72_8 := k72 _ _ f71_8
  have f72_9 := k72 _ _ f71_9
  have f72_10 := k72 _ _ f71_10
  have f72_11 := k72 _ _ f71_11
  have f72_12 := k72 _ _ f71_12
  have f72_13 := k72 _ _ f71_13
  have f72_14 := k72 _ _ f71_14
  have f72_15 := k72 _ _ f71_15
  have f72_16 := k72 _ _ f71_16
  have f72_17 := k72 _ _ f71_17
  have f72_18 := k72 _ _ f71_18
  have f72_19 := k72 _ _ f71_19
  have f72_20 := k72 _ _ f71_20
  have f72_21 := k72 _ _ f71_21
  have f72_22 := k72 _ _ f71_22
  have f72_23 := k72 _ _ f71_23
  have f72_24 := k72 _ _ f71_24
  have f72_25 := k72 _ _ f71_25
  have f72_26 := k72 _ _ f71_26
  have f72_27 := k72 _ _ f71_27
  have f72_28 := k72 _ _ f71_28
  have f72_29 := k72 _ _ f71_29
  have f72_30 := k72 _ _ f71_30
  have f72_31 := k72 _ _ f71_31
  have f72_32 := k72 _ _ f71_32
  have f72_33 := k72 _ _ f71_33
  have f72_34 := k72 _ _ f71_34
  have f72_35 := k72 _ _ f71_35
  refine mS_steps (pc' := 320) (ls' := [.ref 279]) (st' := [.ref 279]) (mem' := m72) 1 rfl ?_
  refine mS_getg (r := 286) rfl f72_0 (by decide) (by decide) (by subst_vars; rfl) ?_
  refine mS_steps (pc' := 335) (ls' := [.ref 279]) (st' := [.int (0 : Int32), .int (0 : Int32), .int (0 : Int32), .int (107 : Int32), .int (110 : Int32), .int (105 : Int32), .int (108 : Int32), .int (1 : Int32), .ref 286]) (mem' := m72) 8 rfl ?_
  refine mS_call (q := (243146 : Int64)) 12 7 [.int (108 : Int32), .int (105 : Int32), .int (110 : Int32), .int (107 : Int32), .int (0 : Int32), .int (0 : Int32), .int (0 : Int32)] [.int (1 : Int32), .ref 286] rfl rfl rfl ⟨_, _, _, rfl, rfl⟩ (Nat.le_of_ble_eq_true rfl) (Nat.le_of_ble_eq_true rfl) (by decide +kernel) (f_X11_letters_snd (108 : Int32) (105 : Int32) (110 : Int32) (107 : Int32) (0 : Int32) (0 : Int32) (0 : Int32) m72) ?_
  refine mS_steps (pc' := 338) (ls' := [.ref 279]) (st' := [.long (243146 : Int64), .int (1 : Int32), .ref 286]) (mem' := m72) 0 rfl ?_
  refine mS_steps (pc' := 338) (ls' := [.ref 279]) (st' := [.long (243146 : Int64), .int (1 : Int32), .ref 286]) (mem' := m72) 0 rfl ?_
  refine mS_ljg (c := 1) rfl f72_7 (by decide) (by decide) (by decide) ?_
  refine mS_genM (mem := m72) l72 (fun _ _ h => h) (fun m73 e73 l73 k73 => ?_)
  have f73_0 := k73 _ _ f72_0
  have f73_1 := k73 _ _ f72_1
  have f73_2 := k73 _ _ f72_2
  have f73_3 := k73 _ _ f72_3
  have f73_4 := k73 _ _ f72_4
  have f73_5 := k73 _ _ f72_5
  have f73_6 := k73 _ _ f72_6
  have f73_7 := k73 _ _ f72_7
  have f73_8 := k73 _ _ f72_8
  have f73_9 := k73 _ _ f72_9
  have f73_10 := k73 _ _ f72_10
  have f73_11 := k73 _ _ f72_11
  have f73_12 := k73 _ _ f72_12
  have f73_13 := k73 _ _ f72_13
  have f73_14 := k73 _ _ f72_14
  have f73_15 := k73 _ _ f72_15
  have f73_16 := k73 _ _ f72_16
  have f73_17 := k73 _ _ f72_17
  have f73_18 := k73 _ _ f72_18
  have f73_19 := k73 _ _ f72_19
  have f73_20 := k73 _ _ f72_20
  have f73_21 := k73 _ _ f72_21
  have f73_22 := k73 _ _ f72_22
  have f73_23 := k73 _ _ f72_23
  have f73_24 := k73 _ _ f72_24
  have f73_25 := k73 _ _ f72_25
  have f73_26 := k73 _ _ f72_26
  have f73_27 := k73 _ _ f72_27
  have f73_28 := k73 _ _ f72_28
  have f73_29 := k73 _ _ f72_29
  have f73_30 := k73 _ _ f72_30
  have f73_31 := k73 _ _ f72_31
  have f73_32 := k73 _ _ f72_32
  have f73_33 := k73 _ _ f72_33
  have f73_34 := k73 _ _ f72_34
  have f73_35 := k73 _ _ f72_35
  refine mS_steps (pc' := 340) (ls' := [.ref 279]) (st' := [.ref 279]) (mem' := m73) 1 rfl ?_
  refine mS_getg (r := 286) rfl f73_0 (by decide) (by decide) (by subst_vars; rfl) ?_
  refine mS_steps (pc' := 354) (ls' := [.ref 279]) (st' := [.int (0 : Int32), .int (0 : Int32), .int (0 : Int32), .int (0 : Int32), .int (102 : Int32), .int (102 : Int32), .int (111 : Int32), .int (2 : Int32), .ref 286]) (mem' := m73) 8 rfl ?_
  refine mS_call (q := (11103 : Int64)) 12 7 [.int (111 : Int32), .int (102 : Int32), .int (102 : Int32), .int (0 : Int32), .int (0 : Int32), .int (0 : Int32), .int (0 : Int32)] [.int (2 : Int32), .ref 286] rfl rfl rfl ⟨_, _, _, rfl, rfl⟩ (Nat.le_of_ble_eq_true rfl) (Nat.le_of_ble_eq_true rfl) (by decide +kernel) (f_X11_letters_snd (111 : Int32) (102 : Int32) (102 : Int32) (0 : Int32) (0 : Int32) (0 : Int32) (0 : Int32) m73) ?_
  refine mS_steps (pc' := 357) (ls' := [.ref 279]) (st' := [.long (11103 : Int64), .int (2 : Int32), .ref 286]) (mem' := m73) 0 rfl ?_
  refine mS_steps (pc' := 357) (ls' := [.ref 279]) (st' := [.long (11103 : Int64), .int (2 : Int32), .ref 286]) (mem' := m73) 0 rfl ?_
  refine mS_ljg (c := 2) rfl f73_7 (by decide) (by decide) (by decide) ?_
  refine mS_genM (mem := m73) l73 (fun _ _ h => h) (fun m74 e74 l74 k74 => ?_)
  have f74_0 := k74 _ _ f73_0
  have f74_1 := k74 _ _ f73_1
  have f74_2 := k74 _ _ f73_2
  have f74_3 := k74 _ _ f73_3
  have f74_4 := k74 _ _ f73_4
  have f74_5 := k74 _ _ f73_5
  have f74_6 := k74 _ _ f73_6
  have f74_7 := k74 _ _ f73_7
  have f74_8 := k74 _ _ f73_8
  have f74_9 := k74 _ _ f73_9
  have f74_10 := k74 _ _ f73_10
  have f74_11 := k74 _ _ f73_11
  have f74_12 := k74 _ _ f73_12
  have f74_13 := k74 _ _ f73_13
  have f74_14 := k74 _ _ f73_14
  have f74_15 := k74 _ _ f73_15
  have f74_16 := k74 _ _ f73_16
  have f74_17 := k74 _ _ f73_17
  have f74_18 := k74 _ _ f73_18
  have f74_19 := k74 _ _ f73_19
  have f74_20 := k74 _ _ f73_20
  have f74_21 := k74 _ _ f73_21
  have f74_22 := k74 _ _ f73_22
  have f74_23 := k74 _ _ f73_23
  have f74_24 := k74 _ _ f73_24
  have f74_25 := k74 _ _ f73_25
  have f74_26 := k74 _ _ f73_26
  have f74_27 := k74 _ _ f73_27
  have f74_28 := k74 _ _ f73_28
  have f74_29 := k74 _ _ f73_29
  have f74_30 := k74 _ _ f73_30
  have f74_31 := k74 _ _ f73_31
  have f74_32 := k74 _ _ f73_32
  have f74_33 := k74 _ _ f73_33
  have f74_34 := k74 _ _ f73_34
  have f74_35 := k74 _ _ f73_35
  refine mS_steps (pc' := 359) (ls' := [.ref 279]) (st' := [.ref 279]) (mem' := m74) 1 rfl ?_
  refine mS_getg (r := 286) rfl f74_0 (by decide) (by decide) (by subst_vars; rfl) ?_
  refine mS_steps (pc' := 374) (ls' := [.ref 279]) (st' := [.int (0 : Int32), .int (0 : Int32), .int (0 : Int32), .int (116 : Int32), .int (111 : Int32), .int (111 : Int32), .int (114 : Int32), .int (3 : Int32), .ref 286]) (mem' := m74) 8 rfl ?_
  refine mS_call (q := (365654 : Int64)) 12 7 [.int (114 : Int32), .int (111 : Int32), .int (111 : Int32), .int (116 : Int32), .int (0 : Int32), .int (0 : Int32), .int (0 : Int32)] [.int (3 : Int32), .ref 286] rfl rfl rfl ⟨_, _, _, rfl, rfl⟩ (Nat.le_of_ble_eq_true rfl) (Nat.le_of_ble_eq_true rfl) (by decide +kernel) (f_X11_letters_snd (114 : Int32) (111 : Int32) (111 : Int32) (116 : Int32) (0 : Int32) (0 : Int32) (0 : Int32) m74) ?_
  refine mS_steps (pc' := 377) (ls' := [.ref 279]) (st' := [.long (365654 : Int64), .int (3 : Int32), .ref 286]) (mem' := m74) 0 rfl ?_
  refine mS_steps (pc' := 377) (ls' := [.ref 279]) (st' := [.long (365654 : Int64), .int (3 : Int32), .ref 286]) (mem' := m74) 0 rfl ?_
  refine mS_ljg (c := 3) rfl f74_7 (by decide) (by decide) (by decide) ?_
  refine mS_genM (mem := m74) l74 (fun _ _ h => h) (fun m75 e75 l75 k75 => ?_)
  have f75_0 := k75 _ _ f74_0
  have f75_1 := k75 _ _ f74_1
  have f75_2 := k75 _ _ f74_2
  have f75_3 := k75 _ _ f74_3
  have f75_4 := k75 _ _ f74_4
  have f75_5 := k75 _ _ f74_5
  have f75_6 := k75 _ _ f74_6
  have f75_7 := k75 _ _ f74_7
  have f75_8 := k75 _ _ f74_8
  have f75_9 := k75 _ _ f74_9
  have f75_10 := k75 _ _ f74_10
  have f75_11 := k75 _ _ f74_11
  have f75_12 := k75 _ _ f74_12
  have f75_13 := k75 _ _ f74_13
  have f75_14 := k75 _ _ f74_14
  have f75_15 := k75 _ _ f74_15
  have f75_16 := k75 _ _ f74_16
  have f75_17 := k75 _ _ f74_17
  have f75_18 := k75 _ _ f74_18
  have f75_19 := k75 _ _ f74_19
  have f75_20 := k75 _ _ f74_20
  have f75_21 := k75 _ _ f74_21
  have f75_22 := k75 _ _ f74_22
  have f75_23 := k75 _ _ f74_23
  have f75_24 := k75 _ _ f74_24
  have f75_25 := k75 _ _ f74_25
  have f75_26 := k75 _ _ f74_26
  have f75_27 := k75 _ _ f74_27
  have f75_28 := k75 _ _ f74_28
  have f75_29 := k75 _ _ f74_29
  have f75_30 := k75 _ _ f74_30
  have f75_31 := k75 _ _ f74_31
  have f75_32 := k75 _ _ f74_32
  have f75_33 := k75 _ _ f74_33
  have f75_34 := k75 _ _ f74_34
  have f75_35 := k75 _ _ f74_35
  refine mS_steps (pc' := 379) (ls' := [.ref 279]) (st' := [.ref 279]) (mem' := m75) 1 rfl ?_
  refine mS_getg (r := 286) rfl f75_0 (by decide) (by decide) (by subst_vars; rfl) ?_
  refine mS_steps (pc' := 394) (ls' := [.ref 279]) (st' := [.int (0 : Int32), .int (0 : Int32), .int (0 : Int32), .int (110 : Int32), .int (119 : Int32), .int (111 : Int32), .int (100 : Int32), .int (4 : Int32), .ref 286]) (mem' := m75) 8 rfl ?_
  refine mS_call (q := (90302 : Int64)) 12 7 [.int (100 : Int32), .int (111 : Int32), .int (119 : Int32), .int (110 : Int32), .int (0 : Int32), .int (0 : Int32), .int (0 : Int32)] [.int (4 : Int32), .ref 286] rfl rfl rfl ⟨_, _, _, rfl, rfl⟩ (Nat.le_of_ble_eq_true rfl) (Nat.le_of_ble_eq_true rfl) (by decide +kernel) (f_X11_letters_snd (100 : Int32) (111 : Int32) (119 : Int32) (110 : Int32) (0 : Int32) (0 : Int32) (0 : Int32) m75) ?_
  refine mS_steps (pc' := 397) (ls' := [.ref 279]) (st' := [.long (90302 : Int64), .int (4 : Int32), .ref 286]) (mem' := m75) 0 rfl ?_
  refine mS_steps (pc' := 397) (ls' := [.ref 279]) (st' := [.long (90302 : Int64), .int (4 : Int32), .ref 286]) (mem' := m75) 0 rfl ?_
  refine mS_ljg (c := 4) rfl f75_7 (by decide) (by decide) (by decide) ?_
  refine mS_genM (mem := m75) l75 (fun _ _ h => h) (fun m76 e76 l76 k76 => ?_)
  have f76_0 := k76 _ _ f75_0
  have f76_1 := k76 _ _ f75_1
  have f76_2 := k76 _ _ f75_2
  have f76_3 := k76 _ _ f75_3
  have f76_4 := k76 _ _ f75_4
  have f76_5 := k76 _ _ f75_5
  have f76_6 := k76 _ _ f75_6
  have f76_7 := k76 _ _ f75_7
  have f76_8 := k76 _ _ f75_8
  have f76_9 := k76 _ _ f75_9
  have f76_10 := k76 _ _ f75_10
  have f76_11 := k76 _ _ f75_11
  have f76_12 := k76 _ _ f75_12
  have f76_13 := k76 _ _ f75_13
  have f76_14 := k76 _ _ f75_14
  have f76_15 := k76 _ _ f75_15
  have f76_16 := k76 _ _ f75_16
  have f76_17 := k76 _ _ f75_17
  have f76_18 := k76 _ _ f75_18
  have f76_19 := k76 _ _ f75_19
  have f76_20 := k76 _ _ f75_20
  have f76_21 := k76 _ _ f75_21
  have f76_22 := k76 _ _ f75_22
  have f76_23 := k76 _ _ f75_23
  have f76_24 := k76 _ _ f75_24
  have f76_25 := k76 _ _ f75_25
  have f76_26 := k76 _ _ f75_26
  have f76_27 := k76 _ _ f75_27
  have f76_28 := k76 _ _ f75_28
  have f76_29 := k76 _ _ f75_29
  have f76_30 := k76 _ _ f75_30
  have f76_31 := k76 _ _ f75_31
  have f76_32 := k76 _ _ f75_32
  have f76_33 := k76 _ _ f75_33
  have f76_34 := k76 _ _ f75_34
  have f76_35 := k76 _ _ f75_35
  refine mS_steps (pc' := 401) (ls' := [.ref 279]) (st' := [.int (-2 : Int32), .ref 279]) (mem' := m76) 2 rfl ?_
  refine mS_pig rfl f76_0 (by decide) (by decide) ?_
  refine mS_genM (mem := m76) l76 (fun _ _ h => h) (fun m77 e77 l77 k77 => ?_)
  have f77_0 := k77 _ _ f76_0
  have f77_1 := k77 _ _ f76_1
  have f77_2 := k77 _ _ f76_2
  have f77_3 := k77 _ _ f76_3
  have f77_4 := k77 _ _ f76_4
  have f77_5 := k77 _ _ f76_5
  have f77_6 := k77 _ _ f76_6
  have f77_7 := k77 _ _ f76_7
  have f77_8 := k77 _ _ f76_8
  have f77_9 := k77 _ _ f76_9
  have f77_10 := k77 _ _ f76_10
  have f77_11 := k77 _ _ f76_11
  have f77_12 := k77 _ _ f76_12
  have f77_13 := k77 _ _ f76_13
  have f77_14 := k77 _ _ f76_14
  have f77_15 := k77 _ _ f76_15
  have f77_16 := k77 _ _ f76_16
  have f77_17 := k77 _ _ f76_17
  have f77_18 := k77 _ _ f76_18
  have f77_19 := k77 _ _ f76_19
  have f77_20 := k77 _ _ f76_20
  have f77_21 := k77 _ _ f76_21
  have f77_22 := k77 _ _ f76_22
  have f77_23 := k77 _ _ f76_23
  have f77_24 := k77 _ _ f76_24
  have f77_25 := k77 _ _ f76_25
  have f77_26 := k77 _ _ f76_26
  have f77_27 := k77 _ _ f76_27
  have f77_28 := k77 _ _ f76_28
  have f77_29 := k77 _ _ f76_29
  have f77_30 := k77 _ _ f76_30
  have f77_31 := k77 _ _ f76_31
  have f77_32 := k77 _ _ f76_32
  have f77_33 := k77 _ _ f76_33
  have f77_34 := k77 _ _ f76_34
  have f77_35 := k77 _ _ f76_35
  refine mS_steps (pc' := 404) (ls' := [.ref 279]) (st' := []) (mem' := m77) 0 rfl ?_
  exact mS_retv ⟨_, _, _, _, _, rfl⟩ (by subst e77 e76 e75 e74 e73 e72 e71 e70 e69 e68 e67 e66 e65 e64 e63 e62 e61 e60 e59 e58 e57 e56 e55 e54 e53 e52 e51 e50 e49 e48 e47 e46 e45 e44 e43 e42 e41 e40 e39 e38 e37 e36 e35 e34 e33 e32 e31 e30 e29 e28 e27 e26 e25 e24 e23 e22 e21 e20 e19 e18 e17 e16 e15 e14 e13 e12 e11 e10 e9 e8 e7 e6 e5 e4 e3 e2 e1; rfl)
