def c_X5_init (mem : mM) : mM := (m_pr 1 15 13 (m_na 0 8 13 (m_pr 1 14 12 (m_na 0 8 12 (m_pr 1 13 11 (m_na 1 8 11 (m_pr 1 8 (mBIG + 0) (m_pr 1 7 10 (m_na 1 400 10 (m_pr 1 6 9 (m_na 0 400 9 (m_pr 1 5 8 (m_na 0 400 8 (m_pr 1 3 7 (m_na 2 2000 7 (m_pr 1 2 2 (c_X6_init 2 3 (m_nw 6 2 (m_pi 1 1 (-1 : Int32) mem)))))))))))))))))))
theorem c_X5_init_sh (mem : mM) : (c_X5_init mem).1 = mem.1 ++ [(6, 14), (100, 16), (100, 16), (100, 16), (100, 16), (102, 2000), (100, 400), (100, 400), (101, 400), (101, 8), (100, 8), (100, 8)] := by
  show _ = _
  simp only [c_X5_init, m_nw, m_na, m_pr, m_pi, m_pj, c_X6_init_sh, List.append_assoc, List.cons_append, List.nil_append]
  try rfl
theorem c_X5_init_at {k : Nat} {mem : mM} {s : Nat × Nat} (h : mem.1[k]? = some s) : (c_X5_init mem).1[k]? = some s := by
  rw [c_X5_init_sh, List.getElem?_append_left (List.getElem?_eq_some_iff.mp h).1]; exact h
theorem c_X5_init_len {n : Nat} {mem : mM} (h : mem.1.length = n) : (c_X5_init mem).1.length = n + 12 := by
  rw [c_X5_init_sh, List.length_append, h]; rfl
set_option maxRecDepth 20000 in
theorem c_X5_init_ge {k : Nat} {mem : mM} (h : 315 ≤ k) : (c_X5_init mem).2.2.2 k = mem.2.2.2 k := ((m_pr_ge (by decide) h).trans ((m_na_ge (by decide) h).trans ((m_pr_ge (by decide) h).trans ((m_na_ge (by decide) h).trans ((m_pr_ge (by decide) h).trans ((m_na_ge (by decide) h).trans ((m_pr_ge (by decide) h).trans ((m_pr_ge (by decide) h).trans ((m_na_ge (by decide) h).trans ((m_pr_ge (by decide) h).trans ((m_na_ge (by decide) h).trans ((m_pr_ge (by decide) h).trans ((m_na_ge (by decide) h).trans ((m_pr_ge (by decide) h).trans ((m_na_ge (by decide) h).trans ((m_pr_ge (by decide) h).trans ((c_X6_init_ge (by decide) (by decide) h).trans ((m_nw_ge (by decide) h).trans m_pi_ge))))))))))))))))))
set_option maxRecDepth 20000 in
set_option maxHeartbeats 4000000 in
theorem c_X5_init_snd {fm : Value} {L : Nat} {xs : Nat → Int32} (mem : mM) (hq : mem.1[1]? = some (5, 17)) (hl : mem.1.length = 2) : mS fm L xs (fun _ : Unit => (mU, c_X5_init mem)) pg_X5_init 0 (m_entry [.ref 1] 1) [] mem (some ()) := by
  refine mS_steps (pc' := 6) (ls' := [.ref 1]) (st' := [.int (-1 : Int32), .ref 1]) (mem' := mem) 4 rfl ?_
  refine mS_pig rfl hq (by decide) (by decide) ?_
  refine mS_genM (mem := mem) hl (fun _ _ h => h) (fun m1 e1 l1 k1 => ?_)
  have f1_0 := k1 _ _ hq
  refine mS_steps (pc' := 10) (ls' := [.ref 1]) (st' := [.ref 1]) (mem' := m1) 1 rfl ?_
  refine mS_nwL (a := 2) rfl l1 (by decide) (fun m2 e2 l2 n2 k2 => ?_)
  have f2_0 := k2 _ _ f1_0
  refine mS_steps (pc' := 14) (ls' := [.ref 1]) (st' := [.ref 2, .ref 2, .ref 1]) (mem' := m2) 1 rfl ?_
  refine mS_call (q := ()) 0 1 [.ref 2] [.ref 2, .ref 1] rfl rfl rfl ⟨_, _, _, rfl, rfl⟩ (Nat.le_of_ble_eq_true rfl) (Nat.le_of_ble_eq_true rfl) rfl (c_X6_init_snd 2 3 m2 n2 l2 (by decide)) ?_
  refine mS_steps (pc' := 17) (ls' := [.ref 1]) (st' := [.ref 2, .ref 1]) (mem' := c_X6_init 2 3 m2) 0 rfl ?_
  refine mS_genM (mem := m2) (c_X6_init_len l2) (fun _ _ h => c_X6_init_at h) (fun m3 e3 l3 k3 => ?_)
  have f3_0 := k3 _ _ f2_0
  have f3_1 := k3 _ _ n2
  refine mS_steps (pc' := 17) (ls' := [.ref 1]) (st' := [.ref 2, .ref 1]) (mem' := m3) 0 rfl ?_
  refine mS_prg rfl f3_0 (by decide) (by decide) ?_
  refine mS_genM (mem := m3) l3 (fun _ _ h => h) (fun m4 e4 l4 k4 => ?_)
  have f4_0 := k4 _ _ f3_0
  have f4_1 := k4 _ _ f3_1
  refine mS_steps (pc' := 24) (ls' := [.ref 1]) (st' := [.int (2000 : Int32), .ref 1]) (mem' := m4) 2 rfl ?_
  refine mS_naL (a := 7) (N := 2000) rfl l4 (by decide) (by decide) (by decide) (by decide) (fun m5 e5 l5 n5 k5 => ?_)
  have f5_0 := k5 _ _ f4_0
  have f5_1 := k5 _ _ f4_1
  refine mS_steps (pc' := 26) (ls' := [.ref 1]) (st' := [.ref 7, .ref 1]) (mem' := m5) 0 rfl ?_
  refine mS_prg rfl f5_0 (by decide) (by decide) ?_
  refine mS_genM (mem := m5) l5 (fun _ _ h => h) (fun m6 e6 l6 k6 => ?_)
  have f6_0 := k6 _ _ f5_0
  have f6_1 := k6 _ _ f5_1
  have f6_2 := k6 _ _ n5
  refine mS_steps (pc' := 33) (ls' := [.ref 1]) (st' := [.int (400 : Int32), .ref 1]) (mem' := m6) 2 rfl ?_
  refine mS_naL (a := 8) (N := 400) rfl l6 (by decide) (by decide) (by decide) (by decide) (fun m7 e7 l7 n7 k7 => ?_)
  have f7_0 := k7 _ _ f6_0
  have f7_1 := k7 _ _ f6_1
  have f7_2 := k7 _ _ f6_2
  refine mS_steps (pc' := 35) (ls' := [.ref 1]) (st' := [.ref 8, .ref 1]) (mem' := m7) 0 rfl ?_
  refine mS_prg rfl f7_0 (by decide) (by decide) ?_
  refine mS_genM (mem := m7) l7 (fun _ _ h => h) (fun m8 e8 l8 k8 => ?_)
  have f8_0 := k8 _ _ f7_0
  have f8_1 := k8 _ _ f7_1
  have f8_2 := k8 _ _ f7_2
  have f8_3 := k8 _ _ n7
  refine mS_steps (pc' := 42) (ls' := [.ref 1]) (st' := [.int (400 : Int32), .ref 1]) (mem' := m8) 2 rfl ?_
  refine mS_naL (a := 9) (N := 400) rfl l8 (by decide) (by decide) (by decide) (by decide) (fun m9 e9 l9 n9 k9 => ?_)
  have f9_0 := k9 _ _ f8_0
  have f9_1 := k9 _ _ f8_1
  have f9_2 := k9 _ _ f8_2
  have f9_3 := k9 _ _ f8_3
  refine mS_steps (pc' := 44) (ls' := [.ref 1]) (st' := [.ref 9, .ref 1]) (mem' := m9) 0 rfl ?_
  refine mS_prg rfl f9_0 (by decide) (by decide) ?_
  refine mS_genM (mem := m9) l9 (fun _ _ h => h) (fun m10 e10 l10 k10 => ?_)
  have f10_0 := k10 _ _ f9_0
  have f10_1 := k10 _ _ f9_1
  have f10_2 := k10 _ _ f9_2
  have f10_3 := k10 _ _ f9_3
  have f10_4 := k10 _ _ n9
  refine mS_steps (pc' := 51) (ls' := [.ref 1]) (st' := [.int (400 : Int32), .ref 1]) (mem' := m10) 2 rfl ?_
  refine mS_naL (a := 10) (N := 400) rfl l10 (by decide) (by decide) (by decide) (by decide) (fun m11 e11 l11 n11 k11 => ?_)
  have f11_0 := k11 _ _ f10_0
  have f11_1 := k11 _ _ f10_1
  have f11_2 := k11 _ _ f10_2
  have f11_3 := k11 _ _ f10_3
  have f11_4 := k11 _ _ f10_4
  refine mS_steps (pc' := 53) (ls' := [.ref 1]) (st' := [.ref 10, .ref 1]) (mem' := m11) 0 rfl ?_
  refine mS_prg rfl f11_0 (by decide) (by decide) ?_
  refine mS_genM (mem := m11) l11 (fun _ _ h => h) (fun m12 e12 l12 k12 => ?_)
  have f12_0 := k12 _ _ f11_0
  have f12_1 := k12 _ _ f11_1
  have f12_2 := k12 _ _ f11_2
  have f12_3 := k12 _ _ f11_3
  have f12_4 := k12 _ _ f11_4
  have f12_5 := k12 _ _ n11
  refine mS_steps (pc' := 59) (ls' := [.ref 1]) (st' := [.ref (mBIG + 0), .ref 1]) (mem' := m12) 2 rfl ?_
  refine mS_prg rfl f12_0 (by decide) (by decide) ?_
  refine mS_genM (mem := m12) l12 (fun _ _ h => h) (fun m13 e13 l13 k13 => ?_)
  have f13_0 := k13 _ _ f12_0
  have f13_1 := k13 _ _ f12_1
  have f13_2 := k13 _ _ f12_2
  have f13_3 := k13 _ _ f12_3
  have f13_4 := k13 _ _ f12_4
  have f13_5 := k13 _ _ f12_5
  refine mS_steps (pc' := 65) (ls' := [.ref 1]) (st' := [.int (8 : Int32), .ref 1]) (mem' := m13) 2 rfl ?_
  refine mS_naL (a := 11) (N := 8) rfl l13 (by decide) (by decide) (by decide) (by decide) (fun m14 e14 l14 n14 k14 => ?_)
  have f14_0 := k14 _ _ f13_0
  have f14_1 := k14 _ _ f13_1
  have f14_2 := k14 _ _ f13_2
  have f14_3 := k14 _ _ f13_3
  have f14_4 := k14 _ _ f13_4
  have f14_5 := k14 _ _ f13_5
  refine mS_steps (pc' := 67) (ls' := [.ref 1]) (st' := [.ref 11, .ref 1]) (mem' := m14) 0 rfl ?_
  refine mS_prg rfl f14_0 (by decide) (by decide) ?_
  refine mS_genM (mem := m14) l14 (fun _ _ h => h) (fun m15 e15 l15 k15 => ?_)
  have f15_0 := k15 _ _ f14_0
  have f15_1 := k15 _ _ f14_1
  have f15_2 := k15 _ _ f14_2
  have f15_3 := k15 _ _ f14_3
  have f15_4 := k15 _ _ f14_4
  have f15_5 := k15 _ _ f14_5
  have f15_6 := k15 _ _ n14
  refine mS_steps (pc' := 73) (ls' := [.ref 1]) (st' := [.int (8 : Int32), .ref 1]) (mem' := m15) 2 rfl ?_
  refine mS_naL (a := 12) (N := 8) rfl l15 (by decide) (by decide) (by decide) (by decide) (fun m16 e16 l16 n16 k16 => ?_)
  have f16_0 := k16 _ _ f15_0
  have f16_1 := k16 _ _ f15_1
  have f16_2 := k16 _ _ f15_2
  have f16_3 := k16 _ _ f15_3
  have f16_4 := k16 _ _ f15_4
  have f16_5 := k16 _ _ f15_5
  have f16_6 := k16 _ _ f15_6
  refine mS_steps (pc' := 75) (ls' := [.ref 1]) (st' := [.ref 12, .ref 1]) (mem' := m16) 0 rfl ?_
  refine mS_prg rfl f16_0 (by decide) (by decide) ?_
  refine mS_genM (mem := m16) l16 (fun _ _ h => h) (fun m17 e17 l17 k17 => ?_)
  have f17_0 := k17 _ _ f16_0
  have f17_1 := k17 _ _ f16_1
  have f17_2 := k17 _ _ f16_2
  have f17_3 := k17 _ _ f16_3
  have f17_4 := k17 _ _ f16_4
  have f17_5 := k17 _ _ f16_5
  have f17_6 := k17 _ _ f16_6
  have f17_7 := k17 _ _ n16
  refine mS_steps (pc' := 81) (ls' := [.ref 1]) (st' := [.int (8 : Int32), .ref 1]) (mem' := m17) 2 rfl ?_
  refine mS_naL (a := 13) (N := 8) rfl l17 (by decide) (by decide) (by decide) (by decide) (fun m18 e18 l18 n18 k18 => ?_)
  have f18_0 := k18 _ _ f17_0
  have f18_1 := k18 _ _ f17_1
  have f18_2 := k18 _ _ f17_2
  have f18_3 := k18 _ _ f17_3
  have f18_4 := k18 _ _ f17_4
  have f18_5 := k18 _ _ f17_5
  have f18_6 := k18 _ _ f17_6
  have f18_7 := k18 _ _ f17_7
  refine mS_steps (pc' := 83) (ls' := [.ref 1]) (st' := [.ref 13, .ref 1]) (mem' := m18) 0 rfl ?_
  refine mS_prg rfl f18_0 (by decide) (by decide) ?_
  refine mS_genM (mem := m18) l18 (fun _ _ h => h) (fun m19 e19 l19 k19 => ?_)
  have f19_0 := k19 _ _ f18_0
  have f19_1 := k19 _ _ f18_1
  have f19_2 := k19 _ _ f18_2
  have f19_3 := k19 _ _ f18_3
  have f19_4 := k19 _ _ f18_4
  have f19_5 := k19 _ _ f18_5
  have f19_6 := k19 _ _ f18_6
  have f19_7 := k19 _ _ f18_7
  have f19_8 := k19 _ _ n18
  refine mS_steps (pc' := 86) (ls' := [.ref 1]) (st' := []) (mem' := m19) 0 rfl ?_
  exact mS_retv ⟨_, _, _, _, _, rfl⟩ (by subst e19 e18 e17 e16 e15 e14 e13 e12 e11 e10 e9 e8 e7 e6 e5 e4 e3 e2 e1; rfl)
def c_X7_init (mem : mM) : mM := (m_pr 234 6 239 (m_na 0 128 239 (m_pr 234 5 238 (m_na 0 128 238 (m_pr 234 4 237 (m_na 0 64 237 (m_pr 234 3 236 (m_na 0 64 236 (m_pr 234 1 235 (m_na 0 8 235 mem))))))))))
theorem c_X7_init_sh (mem : mM) : (c_X7_init mem).1 = mem.1 ++ [(100, 8), (100, 64), (100, 64), (100, 128), (100, 128)] := by
  show _ = _
  simp only [c_X7_init, m_nw, m_na, m_pr, m_pi, m_pj, List.append_assoc, List.cons_append, List.nil_append]
  try rfl
theorem c_X7_init_at {k : Nat} {mem : mM} {s : Nat × Nat} (h : mem.1[k]? = some s) : (c_X7_init mem).1[k]? = some s := by
  rw [c_X7_init_sh, List.getElem?_append_left (List.getElem?_eq_some_iff.mp h).1]; exact h
theorem c_X7_init_len {n : Nat} {mem : mM} (h : mem.1.length = n) : (c_X7_init mem).1.length = n + 5 := by
  rw [c_X7_init_sh, List.length_append, h]; rfl
set_option maxRecDepth 20000 in
theorem c_X7_init_ge {k : Nat} {mem : mM} (h : 315 ≤ k) : (c_X7_init mem).2.2.2 k = mem.2.2.2 k := ((m_pr_ge (by decide) h).trans ((m_na_ge (by decide) h).trans ((m_pr_ge (by decide) h).trans ((m_na_ge (by decide) h).trans ((m_pr_ge (by decide) h).trans ((m_na_ge (by decide) h).trans ((m_pr_ge (by decide) h).trans ((m_na_ge (by decide) h).trans ((m_pr_ge (by decide) h).trans (m_na_ge (by decide) h))))))))))
set_option maxRecDepth 20000 in
set_option maxHeartbeats 4000000 in
theorem c_X7_init_snd {fm : Value} {L : Nat} {xs : Nat → Int32} (mem : mM) (hq : mem.1[234]? = some (7, 7)) (hl : mem.1.length = 235) : mS fm L xs (fun _ : Unit => (mU, c_X7_init mem)) pg_X7_init 0 (m_entry [.ref 234] 1) [] mem (some ()) := by
  refine mS_steps (pc' := 7) (ls' := [.ref 234]) (st' := [.int (8 : Int32), .ref 234]) (mem' := mem) 4 rfl ?_
  refine mS_naL (a := 235) (N := 8) rfl hl (by decide) (by decide) (by decide) (by decide) (fun m1 e1 l1 n1 k1 => ?_)
  have f1_0 := k1 _ _ hq
  refine mS_steps (pc' := 9) (ls' := [.ref 234]) (st' := [.ref 235, .ref 234]) (mem' := m1) 0 rfl ?_
  refine mS_prg rfl f1_0 (by decide) (by decide) ?_
  refine mS_genM (mem := m1) l1 (fun _ _ h => h) (fun m2 e2 l2 k2 => ?_)
  have f2_0 := k2 _ _ f1_0
  have f2_1 := k2 _ _ n1
  refine mS_steps (pc' := 15) (ls' := [.ref 234]) (st' := [.int (64 : Int32), .ref 234]) (mem' := m2) 2 rfl ?_
  refine mS_naL (a := 236) (N := 64) rfl l2 (by decide) (by decide) (by decide) (by decide) (fun m3 e3 l3 n3 k3 => ?_)
  have f3_0 := k3 _ _ f2_0
  have f3_1 := k3 _ _ f2_1
  refine mS_steps (pc' := 17) (ls' := [.ref 234]) (st' := [.ref 236, .ref 234]) (mem' := m3) 0 rfl ?_
  refine mS_prg rfl f3_0 (by decide) (by decide) ?_
  refine mS_genM (mem := m3) l3 (fun _ _ h => h) (fun m4 e4 l4 k4 => ?_)
  have f4_0 := k4 _ _ f3_0
  have f4_1 := k4 _ _ f3_1
  have f4_2 := k4 _ _ n3
  refine mS_steps (pc' := 23) (ls' := [.ref 234]) (st' := [.int (64 : Int32), .ref 234]) (mem' := m4) 2 rfl ?_
  refine mS_naL (a := 237) (N := 64) rfl l4 (by decide) (by decide) (by decide) (by decide) (fun m5 e5 l5 n5 k5 => ?_)
  have f5_0 := k5 _ _ f4_0
  have f5_1 := k5 _ _ f4_1
  have f5_2 := k5 _ _ f4_2
  refine mS_steps (pc' := 25) (ls' := [.ref 234]) (st' := [.ref 237, .ref 234]) (mem' := m5) 0 rfl ?_
  refine mS_prg rfl f5_0 (by decide) (by decide) ?_
  refine mS_genM (mem := m5) l5 (fun _ _ h => h) (fun m6 e6 l6 k6 => ?_)
  have f6_0 := k6 _ _ f5_0
  have f6_1 := k6 _ _ f5_1
  have f6_2 := k6 _ _ f5_2
  have f6_3 := k6 _ _ n5
  refine mS_steps (pc' := 32) (ls' := [.ref 234]) (st' := [.int (128 : Int32), .ref 234]) (mem' := m6) 2 rfl ?_
  refine mS_naL (a := 238) (N := 128) rfl l6 (by decide) (by decide) (by decide) (by decide) (fun m7 e7 l7 n7 k7 => ?_)
  have f7_0 := k7 _ _ f6_0
  have f7_1 := k7 _ _ f6_1
  have f7_2 := k7 _ _ f6_2
  have f7_3 := k7 _ _ f6_3
  refine mS_steps (pc' := 34) (ls' := [.ref 234]) (st' := [.ref 238, .ref 234]) (mem' := m7) 0 rfl ?_
  refine mS_prg rfl f7_0 (by decide) (by decide) ?_
  refine mS_genM (mem := m7) l7 (fun _ _ h => h) (fun m8 e8 l8 k8 => ?_)
  have f8_0 := k8 _ _ f7_0
  have f8_1 := k8 _ _ f7_1
  have f8_2 := k8 _ _ f7_2
  have f8_3 := k8 _ _ f7_3
  have f8_4 := k8 _ _ n7
  refine mS_steps (pc' := 41) (ls' := [.ref 234]) (st' := [.int (128 : Int32), .ref 234]) (mem' := m8) 2 rfl ?_
  refine mS_naL (a := 239) (N := 128) rfl l8 (by decide) (by decide) (by decide) (by decide) (fun m9 e9 l9 n9 k9 => ?_)
  have f9_0 := k9 _ _ f8_0
  have f9_1 := k9 _ _ f8_1
  have f9_2 := k9 _ _ f8_2
  have f9_3 := k9 _ _ f8_3
  have f9_4 := k9 _ _ f8_4
  refine mS_steps (pc' := 43) (ls' := [.ref 234]) (st' := [.ref 239, .ref 234]) (mem' := m9) 0 rfl ?_
  refine mS_prg rfl f9_0 (by decide) (by decide) ?_
  refine mS_genM (mem := m9) l9 (fun _ _ h => h) (fun m10 e10 l10 k10 => ?_)
  have f10_0 := k10 _ _ f9_0
  have f10_1 := k10 _ _ f9_1
  have f10_2 := k10 _ _ f9_2
  have f10_3 := k10 _ _ f9_3
  have f10_4 := k10 _ _ f9_4
  have f10_5 := k10 _ _ n9
  refine mS_steps (pc' := 46) (ls' := [.ref 234]) (st' := []) (mem' := m10) 0 rfl ?_
  exact mS_retv ⟨_, _, _, _, _, rfl⟩ (by subst e10 e9 e8 e7 e6 e5 e4 e3 e2 e1; rfl)
def c_X9_init (mem : mM) : mM := (m_pr 240 3 244 (m_na 0 8 244 (m_pr 240 2 243 (m_na 0 8 243 (m_pr 240 1 242 (m_na 0 8 242 (m_pr 240 0 241 (m_na 0 8 241 mem))))))))
theorem c_X9_init_sh (mem : mM) : (c_X9_init mem).1 = mem.1 ++ [(100, 8), (100, 8), (100, 8), (100, 8)] := by
  show _ = _
  simp only [c_X9_init, m_nw, m_na, m_pr, m_pi, m_pj, List.append_assoc, List.cons_append, List.nil_append]
  try rfl
theorem c_X9_init_at {k : Nat} {mem : mM} {s : Nat × Nat} (h : mem.1[k]? = some s) : (c_X9_init mem).1[k]? = some s := by
  rw [c_X9_init_sh, List.getElem?_append_left (List.getElem?_eq_some_iff.mp h).1]; exact h
theorem c_X9_init_len {n : Nat} {mem : mM} (h : mem.1.length = n) : (c_X9_init mem).1.length = n + 4 := by
  rw [c_X9_init_sh, List.length_append, h]; rfl
set_option maxRecDepth 20000 in
theorem c_X9_init_ge {k : Nat} {mem : mM} (h : 315 ≤ k) : (c_X9_init mem).2.2.2 k = mem.2.2.2 k := ((m_pr_ge (by decide) h).trans ((m_na_ge (by decide) h).trans ((m_pr_ge (by decide) h).trans ((m_na_ge (by decide) h).trans ((m_pr_ge (by decide) h).trans ((m_na_ge (by decide) h).trans ((m_pr_ge (by decide) h).trans (m_na_ge (by decide) h))))))))
set_option maxRecDepth 20000 in
set_option maxHeartbeats 4000000 in
theorem c_X9_init_snd {fm : Value} {L : Nat} {xs : Nat → Int32} (mem : mM) (hq : mem.1[240]? = some (9, 5)) (hl : mem.1.length = 241) : mS fm L xs (fun _ : Unit => (mU, c_X9_init mem)) pg_X9_init 0 (m_entry [.ref 240] 1) [] mem (some ()) := by
  refine mS_steps (pc' := 7) (ls' := [.ref 240]) (st' := [.int (8 : Int32), .ref 240]) (mem' := mem) 4 rfl ?_
  refine mS_naL (a := 241) (N := 8) rfl hl (by decide) (by decide) (by decide) (by decide) (fun m1 e1 l1 n1 k1 => ?_)
  have f1_0 := k1 _ _ hq
  refine mS_steps (pc' := 9) (ls' := [.ref 240]) (st' := [.ref 241, .ref 240]) (mem' := m1) 0 rfl ?_
  refine mS_prg rfl f1_0 (by decide) (by decide) ?_
  refine mS_genM (mem := m1) l1 (fun _ _ h => h) (fun m2 e2 l2 k2 => ?_)
  have f2_0 := k2 _ _ f1_0
  have f2_1 := k2 _ _ n1
  refine mS_steps (pc' := 15) (ls' := [.ref 240]) (st' := [.int (8 : Int32), .ref 240]) (mem' := m2) 2 rfl ?_
  refine mS_naL (a := 242) (N := 8) rfl l2 (by decide) (by decide) (by decide) (by decide) (fun m3 e3 l3 n3 k3 => ?_)
  have f3_0 := k3 _ _ f2_0
  have f3_1 := k3 _ _ f2_1
  refine mS_steps (pc' := 17) (ls' := [.ref 240]) (st' := [.ref 242, .ref 240]) (mem' := m3) 0 rfl ?_
  refine mS_prg rfl f3_0 (by decide) (by decide) ?_
  refine mS_genM (mem := m3) l3 (fun _ _ h => h) (fun m4 e4 l4 k4 => ?_)
  have f4_0 := k4 _ _ f3_0
  have f4_1 := k4 _ _ f3_1
  have f4_2 := k4 _ _ n3
  refine mS_steps (pc' := 23) (ls' := [.ref 240]) (st' := [.int (8 : Int32), .ref 240]) (mem' := m4) 2 rfl ?_
  refine mS_naL (a := 243) (N := 8) rfl l4 (by decide) (by decide) (by decide) (by decide) (fun m5 e5 l5 n5 k5 => ?_)
  have f5_0 := k5 _ _ f4_0
  have f5_1 := k5 _ _ f4_1
  have f5_2 := k5 _ _ f4_2
  refine mS_steps (pc' := 25) (ls' := [.ref 240]) (st' := [.ref 243, .ref 240]) (mem' := m5) 0 rfl ?_
  refine mS_prg rfl f5_0 (by decide) (by decide) ?_
  refine mS_genM (mem := m5) l5 (fun _ _ h => h) (fun m6 e6 l6 k6 => ?_)
  have f6_0 := k6 _ _ f5_0
  have f6_1 := k6 _ _ f5_1
  have f6_2 := k6 _ _ f5_2
  have f6_3 := k6 _ _ n5
  refine mS_steps (pc' := 31) (ls' := [.ref 240]) (st' := [.int (8 : Int32), .ref 240]) (mem' := m6) 2 rfl ?_
  refine mS_naL (a := 244) (N := 8) rfl l6 (by decide) (by decide) (by decide) (by decide) (fun m7 e7 l7 n7 k7 => ?_)
  have f7_0 := k7 _ _ f6_0
  have f7_1 := k7 _ _ f6_1
  have f7_2 := k7 _ _ f6_2
  have f7_3 := k7 _ _ f6_3
  refine mS_steps (pc' := 33) (ls' := [.ref 240]) (st' := [.ref 244, .ref 240]) (mem' := m7) 0 rfl ?_
  refine mS_prg rfl f7_0 (by decide) (by decide) ?_
  refine mS_genM (mem := m7) l7 (fun _ _ h => h) (fun m8 e8 l8 k8 => ?_)
  have f8_0 := k8 _ _ f7_0
  have f8_1 := k8 _ _ f7_1
  have f8_2 := k8 _ _ f7_2
  have f8_3 := k8 _ _ f7_3
  have f8_4 := k8 _ _ n7
  refine mS_steps (pc' := 36) (ls' := [.ref 240]) (st' := []) (mem' := m8) 0 rfl ?_
  exact mS_retv ⟨_, _, _, _, _, rfl⟩ (by subst e8 e7 e6 e5 e4 e3 e2 e1; rfl)
def c_X0_init (mem : mM) : mM := (m_pr 245 8 250 (m_na 0 8 250 (m_pr 245 5 249 (m_na 0 8 249 (m_pr 245 4 248 (m_na 0 8 248 (m_pr 245 3 247 (m_na 0 17 247 (m_pr 245 2 246 (m_na 0 48 246 mem))))))))))
theorem c_X0_init_sh (mem : mM) : (c_X0_init mem).1 = mem.1 ++ [(100, 48), (100, 17), (100, 8), (100, 8), (100, 8)] := by
  show _ = _
  simp only [c_X0_init, m_nw, m_na, m_pr, m_pi, m_pj, List.append_assoc, List.cons_append, List.nil_append]
  try rfl
theorem c_X0_init_at {k : Nat} {mem : mM} {s : Nat × Nat} (h : mem.1[k]? = some s) : (c_X0_init mem).1[k]? = some s := by
  rw [c_X0_init_sh, List.getElem?_append_left (List.getElem?_eq_some_iff.mp h).1]; exact h
theorem c_X0_init_len {n : Nat} {mem : mM} (h : mem.1.length = n) : (c_X0_init mem).1.length = n + 5 := by
  rw [c_X0_init_sh, List.length_append, h]; rfl
set_option maxRecDepth 20000 in
theorem c_X0_init_ge {k : Nat} {mem : mM} (h : 315 ≤ k) : (c_X0_init mem).2.2.2 k = mem.2.2.2 k := ((m_pr_ge (by decide) h).trans ((m_na_ge (by decide) h).trans ((m_pr_ge (by decide) h).trans ((m_na_ge (by decide) h).trans ((m_pr_ge (by decide) h).trans ((m_na_ge (by decide) h).trans ((m_pr_ge (by decide) h).trans ((m_na_ge (by decide) h).trans ((m_pr_ge (by decide) h).trans (m_na_ge (by decide) h))))))))))
set_option maxRecDepth 20000 in
set_option maxHeartbeats 4000000 in
theorem c_X0_init_snd {fm : Value} {L : Nat} {xs : Nat → Int32} (mem : mM) (hq : mem.1[245]? = some (0, 9)) (hl : mem.1.length = 246) : mS fm L xs (fun _ : Unit => (mU, c_X0_init mem)) pg_X0_init 0 (m_entry [.ref 245] 1) [] mem (some ()) := by
  refine mS_steps (pc' := 7) (ls' := [.ref 245]) (st' := [.int (48 : Int32), .ref 245]) (mem' := mem) 4 rfl ?_
  refine mS_naL (a := 246) (N := 48) rfl hl (by decide) (by decide) (by decide) (by decide) (fun m1 e1 l1 n1 k1 => ?_)
  have f1_0 := k1 _ _ hq
  refine mS_steps (pc' := 9) (ls' := [.ref 245]) (st' := [.ref 246, .ref 245]) (mem' := m1) 0 rfl ?_
  refine mS_prg rfl f1_0 (by decide) (by decide) ?_
  refine mS_genM (mem := m1) l1 (fun _ _ h => h) (fun m2 e2 l2 k2 => ?_)
  have f2_0 := k2 _ _ f1_0
  have f2_1 := k2 _ _ n1
  refine mS_steps (pc' := 15) (ls' := [.ref 245]) (st' := [.int (17 : Int32), .ref 245]) (mem' := m2) 2 rfl ?_
  refine mS_naL (a := 247) (N := 17) rfl l2 (by decide) (by decide) (by decide) (by decide) (fun m3 e3 l3 n3 k3 => ?_)
  have f3_0 := k3 _ _ f2_0
  have f3_1 := k3 _ _ f2_1
  refine mS_steps (pc' := 17) (ls' := [.ref 245]) (st' := [.ref 247, .ref 245]) (mem' := m3) 0 rfl ?_
  refine mS_prg rfl f3_0 (by decide) (by decide) ?_
  refine mS_genM (mem := m3) l3 (fun _ _ h => h) (fun m4 e4 l4 k4 => ?_)
  have f4_0 := k4 _ _ f3_0
  have f4_1 := k4 _ _ f3_1
  have f4_2 := k4 _ _ n3
  refine mS_steps (pc' := 23) (ls' := [.ref 245]) (st' := [.int (8 : Int32), .ref 245]) (mem' := m4) 2 rfl ?_
  refine mS_naL (a := 248) (N := 8) rfl l4 (by decide) (by decide) (by decide) (by decide) (fun m5 e5 l5 n5 k5 => ?_)
  have f5_0 := k5 _ _ f4_0
  have f5_1 := k5 _ _ f4_1
  have f5_2 := k5 _ _ f4_2
  refine mS_steps (pc' := 25) (ls' := [.ref 245]) (st' := [.ref 248, .ref 245]) (mem' := m5) 0 rfl ?_
  refine mS_prg rfl f5_0 (by decide) (by decide) ?_
  refine mS_genM (mem := m5) l5 (fun _ _ h => h) (fun m6 e6 l6 k6 => ?_)
  have f6_0 := k6 _ _ f5_0
  have f6_1 := k6 _ _ f5_1
  have f6_2 := k6 _ _ f5_2
  have f6_3 := k6 _ _ n5
  refine mS_steps (pc' := 31) (ls' := [.ref 245]) (st' := [.int (8 : Int32), .ref 245]) (mem' := m6) 2 rfl ?_
  refine mS_naL (a := 249) (N := 8) rfl l6 (by decide) (by decide) (by decide) (by decide) (fun m7 e7 l7 n7 k7 => ?_)
  have f7_0 := k7 _ _ f6_0
  have f7_1 := k7 _ _ f6_1
  have f7_2 := k7 _ _ f6_2
  have f7_3 := k7 _ _ f6_3
  refine mS_steps (pc' := 33) (ls' := [.ref 245]) (st' := [.ref 249, .ref 245]) (mem' := m7) 0 rfl ?_
  refine mS_prg rfl f7_0 (by decide) (by decide) ?_
  refine mS_genM (mem := m7) l7 (fun _ _ h => h) (fun m8 e8 l8 k8 => ?_)
  have f8_0 := k8 _ _ f7_0
  have f8_1 := k8 _ _ f7_1
  have f8_2 := k8 _ _ f7_2
  have f8_3 := k8 _ _ f7_3
  have f8_4 := k8 _ _ n7
  refine mS_steps (pc' := 39) (ls' := [.ref 245]) (st' := [.int (8 : Int32), .ref 245]) (mem' := m8) 2 rfl ?_
  refine mS_naL (a := 250) (N := 8) rfl l8 (by decide) (by decide) (by decide) (by decide) (fun m9 e9 l9 n9 k9 => ?_)
  have f9_0 := k9 _ _ f8_0
  have f9_1 := k9 _ _ f8_1
  have f9_2 := k9 _ _ f8_2
  have f9_3 := k9 _ _ f8_3
  have f9_4 := k9 _ _ f8_4
  refine mS_steps (pc' := 41) (ls' := [.ref 245]) (st' := [.ref 250, .ref 245]) (mem' := m9) 0 rfl ?_
  refine mS_prg rfl f9_0 (by decide) (by decide) ?_
  refine mS_genM (mem := m9) l9 (fun _ _ h => h) (fun m10 e10 l10 k10 => ?_)
  have f10_0 := k10 _ _ f9_0
  have f10_1 := k10 _ _ f9_1
  have f10_2 := k10 _ _ f9_2
  have f10_3 := k10 _ _ f9_3
  have f10_4 := k10 _ _ f9_4
  have f10_5 := k10 _ _ n9
  refine mS_steps (pc' := 44) (ls' := [.ref 245]) (st' := []) (mem' := m10) 0 rfl ?_
  exact mS_retv ⟨_, _, _, _, _, rfl⟩ (by subst e10 e9 e8 e7 e6 e5 e4 e3 e2 e1; rfl)
def c_X8_init (mem : mM) : mM := (m_pr 251 4 252 (m_na 0 16 252 mem))
theorem c_X8_init_sh (mem : mM) : (c_X8_init mem).1 = mem.1 ++ [(100, 16)] := by
  show _ = _
  simp only [c_X8_init, m_nw, m_na, m_pr, m_pi, m_pj, List.append_assoc, List.cons_append, List.nil_append]
  try rfl
theorem c_X8_init_at {k : Nat} {mem : mM} {s : Nat × Nat} (h : mem.1[k]? = some s) : (c_X8_init mem).1[k]? = some s := by
  rw [c_X8_init_sh, List.getElem?_append_left (List.getElem?_eq_some_iff.mp h).1]; exact h
theorem c_X8_init_len {n : Nat} {mem : mM} (h : mem.1.length = n) : (c_X8_init mem).1.length = n + 1 := by
  rw [c_X8_init_sh, List.length_append, h]; rfl
set_option maxRecDepth 20000 in
theorem c_X8_init_ge {k : Nat} {mem : mM} (h : 315 ≤ k) : (c_X8_init mem).2.2.2 k = mem.2.2.2 k := ((m_pr_ge (by decide) h).trans (m_na_ge (by decide) h))
set_option maxRecDepth 20000 in
set_option maxHeartbeats 4000000 in
theorem c_X8_init_snd {fm : Value} {L : Nat} {xs : Nat → Int32} (mem : mM) (hq : mem.1[251]? = some (8, 5)) (hl : mem.1.length = 252) : mS fm L xs (fun _ : Unit => (mU, c_X8_init mem)) pg_X8_init 0 (m_entry [.ref 251] 1) [] mem (some ()) := by
  refine mS_steps (pc' := 7) (ls' := [.ref 251]) (st' := [.int (16 : Int32), .ref 251]) (mem' := mem) 4 rfl ?_
  refine mS_naL (a := 252) (N := 16) rfl hl (by decide) (by decide) (by decide) (by decide) (fun m1 e1 l1 n1 k1 => ?_)
  have f1_0 := k1 _ _ hq
  refine mS_steps (pc' := 9) (ls' := [.ref 251]) (st' := [.ref 252, .ref 251]) (mem' := m1) 0 rfl ?_
  refine mS_prg rfl f1_0 (by decide) (by decide) ?_
  refine mS_genM (mem := m1) l1 (fun _ _ h => h) (fun m2 e2 l2 k2 => ?_)
  have f2_0 := k2 _ _ f1_0
  have f2_1 := k2 _ _ n1
  refine mS_steps (pc' := 12) (ls' := [.ref 251]) (st' := []) (mem' := m2) 0 rfl ?_
  exact mS_retv ⟨_, _, _, _, _, rfl⟩ (by subst e2 e1; rfl)
def c_X4_init (mem : mM) : mM := (m_pr 254 0 255 (m_na 0 8 255 mem))
theorem c_X4_init_sh (mem : mM) : (c_X4_init mem).1 = mem.1 ++ [(100, 8)] := by
  show _ = _
  simp only [c_X4_init, m_nw, m_na, m_pr, m_pi, m_pj, List.append_assoc, List.cons_append, List.nil_append]
  try rfl
theorem c_X4_init_at {k : Nat} {mem : mM} {s : Nat × Nat} (h : mem.1[k]? = some s) : (c_X4_init mem).1[k]? = some s := by
  rw [c_X4_init_sh, List.getElem?_append_left (List.getElem?_eq_some_iff.mp h).1]; exact h
theorem c_X4_init_len {n : Nat} {mem : mM} (h : mem.1.length = n) : (c_X4_init mem).1.length = n + 1 := by
  rw [c_X4_init_sh, List.length_append, h]; rfl
set_option maxRecDepth 20000 in
theorem c_X4_init_ge {k : Nat} {mem : mM} (h : 315 ≤ k) : (c_X4_init mem).2.2.2 k = mem.2.2.2 k := ((m_pr_ge (by decide) h).trans (m_na_ge (by decide) h))
set_option maxRecDepth 20000 in
set_option maxHeartbeats 4000000 in
theorem c_X4_init_snd {fm : Value} {L : Nat} {xs : Nat → Int32} (mem : mM) (hq : mem.1[254]? = some (4, 1)) (hl : mem.1.length = 255) : mS fm L xs (fun _ : Unit => (mU, c_X4_init mem)) pg_X4_init 0 (m_entry [.ref 254] 1) [] mem (some ()) := by
  refine mS_steps (pc' := 7) (ls' := [.ref 254]) (st' := [.int (8 : Int32), .ref 254]) (mem' := mem) 4 rfl ?_
  refine mS_naL (a := 255) (N := 8) rfl hl (by decide) (by decide) (by decide) (by decide) (fun m1 e1 l1 n1 k1 => ?_)
  have f1_0 := k1 _ _ hq
  refine mS_steps (pc' := 9) (ls' := [.ref 254]) (st' := [.ref 255, .ref 254]) (mem' := m1) 0 rfl ?_
  refine mS_prg rfl f1_0 (by decide) (by decide) ?_
  refine mS_genM (mem := m1) l1 (fun _ _ h => h) (fun m2 e2 l2 k2 => ?_)
  have f2_0 := k2 _ _ f1_0
  have f2_1 := k2 _ _ n1
  refine mS_steps (pc' := 12) (ls' := [.ref 254]) (st' := []) (mem' := m2) 0 rfl ?_
  exact mS_retv ⟨_, _, _, _, _, rfl⟩ (by subst e2 e1; rfl)
def c_X1_init (mem : mM) : mM := (m_pr 256 3 258 (c_X3_init 258 259 (m_nw 3 258 (m_pr 256 1 257 (m_na 0 4 257 mem)))))
theorem c_X1_init_sh (mem : mM) : (c_X1_init mem).1 = mem.1 ++ [(100, 4), (3, 7), (100, 8), (100, 8), (100, 64), (100, 64), (100, 8)] := by
  show _ = _
  simp only [c_X1_init, m_nw, m_na, m_pr, m_pi, m_pj, c_X3_init_sh, List.append_assoc, List.cons_append, List.nil_append]
  try rfl
theorem c_X1_init_at {k : Nat} {mem : mM} {s : Nat × Nat} (h : mem.1[k]? = some s) : (c_X1_init mem).1[k]? = some s := by
  rw [c_X1_init_sh, List.getElem?_append_left (List.getElem?_eq_some_iff.mp h).1]; exact h
theorem c_X1_init_len {n : Nat} {mem : mM} (h : mem.1.length = n) : (c_X1_init mem).1.length = n + 7 := by
  rw [c_X1_init_sh, List.length_append, h]; rfl
set_option maxRecDepth 20000 in
theorem c_X1_init_ge {k : Nat} {mem : mM} (h : 315 ≤ k) : (c_X1_init mem).2.2.2 k = mem.2.2.2 k := ((m_pr_ge (by decide) h).trans ((c_X3_init_ge (by decide) (by decide) h).trans ((m_nw_ge (by decide) h).trans ((m_pr_ge (by decide) h).trans (m_na_ge (by decide) h)))))
set_option maxRecDepth 20000 in
set_option maxHeartbeats 4000000 in
theorem c_X1_init_snd {fm : Value} {L : Nat} {xs : Nat → Int32} (mem : mM) (hq : mem.1[256]? = some (1, 4)) (hl : mem.1.length = 257) : mS fm L xs (fun _ : Unit => (mU, c_X1_init mem)) pg_X1_init 0 (m_entry [.ref 256] 1) [] mem (some ()) := by
  refine mS_steps (pc' := 6) (ls' := [.ref 256]) (st' := [.int (4 : Int32), .ref 256]) (mem' := mem) 4 rfl ?_
  refine mS_naL (a := 257) (N := 4) rfl hl (by decide) (by decide) (by decide) (by decide) (fun m1 e1 l1 n1 k1 => ?_)
  have f1_0 := k1 _ _ hq
  refine mS_steps (pc' := 8) (ls' := [.ref 256]) (st' := [.ref 257, .ref 256]) (mem' := m1) 0 rfl ?_
  refine mS_prg rfl f1_0 (by decide) (by decide) ?_
  refine mS_genM (mem := m1) l1 (fun _ _ h => h) (fun m2 e2 l2 k2 => ?_)
  have f2_0 := k2 _ _ f1_0
  have f2_1 := k2 _ _ n1
  refine mS_steps (pc' := 12) (ls' := [.ref 256]) (st' := [.ref 256]) (mem' := m2) 1 rfl ?_
  refine mS_nwL (a := 258) rfl l2 (by decide) (fun m3 e3 l3 n3 k3 => ?_)
  have f3_0 := k3 _ _ f2_0
  have f3_1 := k3 _ _ f2_1
  refine mS_steps (pc' := 16) (ls' := [.ref 256]) (st' := [.ref 258, .ref 258, .ref 256]) (mem' := m3) 1 rfl ?_
  refine mS_call (q := ()) 3 1 [.ref 258] [.ref 258, .ref 256] rfl rfl rfl ⟨_, _, _, rfl, rfl⟩ (Nat.le_of_ble_eq_true rfl) (Nat.le_of_ble_eq_true rfl) rfl (c_X3_init_snd 258 259 m3 n3 l3 (by decide)) ?_
  refine mS_steps (pc' := 19) (ls' := [.ref 256]) (st' := [.ref 258, .ref 256]) (mem' := c_X3_init 258 259 m3) 0 rfl ?_
  refine mS_genM (mem := m3) (c_X3_init_len l3) (fun _ _ h => c_X3_init_at h) (fun m4 e4 l4 k4 => ?_)
  have f4_0 := k4 _ _ f3_0
  have f4_1 := k4 _ _ f3_1
  have f4_2 := k4 _ _ n3
  refine mS_steps (pc' := 19) (ls' := [.ref 256]) (st' := [.ref 258, .ref 256]) (mem' := m4) 0 rfl ?_
  refine mS_prg rfl f4_0 (by decide) (by decide) ?_
  refine mS_genM (mem := m4) l4 (fun _ _ h => h) (fun m5 e5 l5 k5 => ?_)
  have f5_0 := k5 _ _ f4_0
  have f5_1 := k5 _ _ f4_1
  have f5_2 := k5 _ _ f4_2
  refine mS_steps (pc' := 22) (ls' := [.ref 256]) (st' := []) (mem' := m5) 0 rfl ?_
  exact mS_retv ⟨_, _, _, _, _, rfl⟩ (by subst e5 e4 e3 e2 e1; rfl)
