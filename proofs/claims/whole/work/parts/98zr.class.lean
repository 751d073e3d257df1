/-! ===== the class made (written by wip/whole/gen/gen20.py) ===== -/
def olEq (l r : List (Nat × Nat × Nat × Nat × Int)) : Bool := decide (l = r)
theorem olEq_ok {l r : List (Nat × Nat × Nat × Nat × Int)} (h : olEq l r = true) : l = r := of_decide_eq_true h
set_option maxRecDepth 20000 in
set_option maxHeartbeats 4000000 in
theorem d_X2_loop {fm : Value} {L : Nat} {xs : Nat → Int32} : ∀ n i, i + n = 40 → mS fm L xs (fun _ : Unit => (mU, mMk 442)) pg_X2_init 15 [.ref 19, .int (nI i)] [] (mMk (42 + 10 * i)) (some ())
  | 0, i, h => by
    have e : i = 40 := by omega
    subst e
    refine mS_steps (pc' := 18) (ls' := [.ref 19, .int (nI 40)]) (st' := [.int (40 : Int32), .int (nI 40)]) (mem' := mMk 442) 2 rfl ?_
    refine mS_one (pc' := 40) (ls' := [.ref 19, .int (nI 40)]) (st' := []) (mem' := mMk 442) rfl (by decide) (by show some (bif decide ((40 : Int32) ≤ nI 40) then _ else _, _, _, _) = _; rw [show decide ((40 : Int32) ≤ nI 40) = true from by decide]; rfl) ?_
    exact mS_retv ⟨_, _, _, _, _, rfl⟩ rfl
  | n + 1, i, h => by
    have hi : i < 40 := by omega
    have hB : (1000 : Nat) < mBIG := by decide
    refine mS_steps (pc' := 18) (ls' := [.ref 19, .int (nI i)]) (st' := [.int (40 : Int32), .int (nI i)]) (mem' := mMk (42 + 10 * i)) 2 rfl ?_
    refine mS_one (pc' := 21) (ls' := [.ref 19, .int (nI i)]) (st' := []) (mem' := mMk (42 + 10 * i)) rfl (by decide) (by show some (bif decide ((40 : Int32) ≤ nI i) then _ else _, _, _, _) = _; rw [decide_eq_false (show ¬ (40 : Int32) ≤ nI i from nI_ge (b := 40) hi (by decide))]; rfl) ?_
    refine mS_steps (pc' := 22) (ls' := [.ref 19, .int (nI i)]) (st' := [.ref 19]) (mem' := mMk (42 + 10 * i)) 1 rfl ?_
    refine mS_getg (n := 3) (r := 20) rfl ((by decide +kernel : ∀ i, i < 40 → (mMk (42 + 10 * i)).1[19]? = some (2, 3)) i hi) (by decide) (by decide) ((by decide +kernel : ∀ i, i < 40 → (mMk (42 + 10 * i)).2.2.2 19 2 = some 20) i hi) ?_
    refine mS_steps (pc' := 26) (ls' := [.ref 19, .int (nI i)]) (st' := [.int (nI i), .ref 20]) (mem' := mMk (42 + 10 * i)) 1 rfl ?_
    refine mS_nwK (a := 21 + 5 * i) rfl ((by decide +kernel : ∀ i, i < 40 → (mMk (42 + 10 * i)).1.length = 21 + 5 * i) i hi) (by omega) (olEq_ok ((by decide +kernel : ∀ i, i < 40 → olEq ((OPS.drop (42 + 10 * i)).take 1) [(0, 6, 21 + 5 * i, 0, 0)] = true) i hi)) ?_
    refine mS_steps (pc' := 30) (ls' := [.ref 19, .int (nI i)]) (st' := [.ref (21 + 5 * i), .ref (21 + 5 * i), .int (nI i), .ref 20]) (mem' := mMk (42 + 10 * i + 1)) 1 rfl ?_
    have e6 : c_X6_init (21 + 5 * i) (22 + 5 * i) (mMk (42 + 10 * i + 1)) = mMk (42 + 10 * i + 1 + 8) := by
      rw [c_X6_init_o, mMk_add (42 + 10 * i + 1) 8, olEq_ok ((by decide +kernel : ∀ i, i < 40 → olEq ((OPS.drop (42 + 10 * i + 1)).take 8) (o_X6_init (21 + 5 * i) (22 + 5 * i)) = true) i hi)]
    refine mS_call (q := ()) 0 1 [.ref (21 + 5 * i)] [.ref (21 + 5 * i), .int (nI i), .ref 20] rfl rfl rfl ⟨_, _, _, rfl, rfl⟩ (Nat.le_of_ble_eq_true rfl) (Nat.le_of_ble_eq_true rfl) rfl (c_X6_init_snd (21 + 5 * i) (22 + 5 * i) (mMk (42 + 10 * i + 1)) ((by decide +kernel : ∀ i, i < 40 → (mMk (42 + 10 * i + 1)).1[21 + 5 * i]? = some (6, 14)) i hi) ((by decide +kernel : ∀ i, i < 40 → (mMk (42 + 10 * i + 1)).1.length = 22 + 5 * i) i hi) (by omega)) ?_
    show mS fm L xs (fun _ : Unit => (mU, mMk 442)) pg_X2_init 33 [.ref 19, .int (nI i)] [.ref (21 + 5 * i), .int (nI i), .ref 20] (c_X6_init (21 + 5 * i) (22 + 5 * i) (mMk (42 + 10 * i + 1))) (some ())
    rw [e6]
    refine mS_aaK (n := 40) (N := 14) (c := i) rfl ((by decide +kernel : ∀ i, i < 40 → (mMk (42 + 10 * i + 1 + 8)).1[20]? = some (104, 40)) i hi) (by decide) ((by decide +kernel : ∀ i, i < 40 → (mMk (42 + 10 * i + 1 + 8)).1[21 + 5 * i]? = some (6, 14)) i hi) (by omega) (in_ok hi (by decide)) (cl (by omega)) (olEq_ok ((by decide +kernel : ∀ i, i < 40 → olEq ((OPS.drop (42 + 10 * i + 1 + 8)).take 1) [(2, 20, i, 21 + 5 * i, 0)] = true) i hi)) ?_
    refine mS_one (pc' := 37) (ls' := [.ref 19, .int (nI (i + 1))]) (st' := []) (mem' := mMk (42 + 10 * (i + 1))) rfl (by decide) (by show some (_, [Value.ref 19, Value.int (nI i + 1)], _, _) = _; rw [nI_1]; rfl) ?_
    refine mS_steps (pc' := 15) (ls' := [.ref 19, .int (nI (i + 1))]) (st' := []) (mem' := mMk (42 + 10 * (i + 1))) 1 rfl ?_
    exact d_X2_loop n (i + 1) (by omega)
set_option maxRecDepth 20000 in
set_option maxHeartbeats 4000000 in
theorem d_X2_init {fm : Value} {L : Nat} {xs : Nat → Int32} : mS fm L xs (fun _ : Unit => (mU, mMk 442)) pg_X2_init 0 (m_entry [.ref 19] 2) [] (mMk 40) (some ()) := by
  refine mS_steps (pc' := 7) (ls' := [.ref 19, mU]) (st' := [.int (40 : Int32), .ref 19]) (mem' := mMk 40) 4 rfl ?_
  refine mS_naK (a := 20) (N := 40) rfl (by decide +kernel) (by decide) (by decide) (by decide) (by decide) (by decide +kernel) ?_
  refine mS_steps (pc' := 10) (ls' := [.ref 19, mU]) (st' := [.ref 20, .ref 19]) (mem' := mMk 41) 0 rfl ?_
  refine mS_prK (n := 3) rfl (by decide +kernel) (by decide) (by decide) (by decide +kernel) ?_
  refine mS_steps (pc' := 15) (ls' := [.ref 19, .int (0 : Int32)]) (st' := []) (mem' := mMk 42) 2 rfl ?_
  exact d_X2_loop 40 0 rfl
set_option maxRecDepth 20000 in
set_option maxHeartbeats 4000000 in
theorem d_X5_init {fm : Value} {L : Nat} {xs : Nat → Int32} : mS fm L xs (fun _ : Unit => (mU, mMk 28)) pg_X5_init 0 (m_entry [.ref 1] 1) [] (mMk 2) (some ()) := by
  have e : c_X5_init (mMk 2) = mMk 28 := by
    rw [c_X5_init_o, show mMk 28 = _ from mMk_add 2 26, show (OPS.drop 2).take 26 = o_X5_init by decide +kernel]
  rw [← e]
  exact c_X5_init_snd (mMk 2) (by decide +kernel) (by decide +kernel)
set_option maxRecDepth 20000 in
set_option maxHeartbeats 4000000 in
theorem d_X6_init_14 {fm : Value} {L : Nat} {xs : Nat → Int32} : mS fm L xs (fun _ : Unit => (mU, mMk 38)) pg_X6_init 0 (m_entry [.ref 14] 1) [] (mMk 30) (some ()) := by
  have e : c_X6_init 14 15 (mMk 30) = mMk 38 := by
    rw [c_X6_init_o, show mMk 38 = _ from mMk_add 30 8, show (OPS.drop 30).take 8 = o_X6_init 14 15 by decide +kernel]
  rw [← e]
  exact c_X6_init_snd 14 15 (mMk 30) (by decide +kernel) (by decide +kernel) (by decide)
set_option maxRecDepth 20000 in
set_option maxHeartbeats 4000000 in
theorem d_X3_init_222 {fm : Value} {L : Nat} {xs : Nat → Int32} : mS fm L xs (fun _ : Unit => (mU, mMk 456)) pg_X3_init 0 (m_entry [.ref 222] 1) [] (mMk 446) (some ()) := by
  have e : c_X3_init 222 223 (mMk 446) = mMk 456 := by
    rw [c_X3_init_o, show mMk 456 = _ from mMk_add 446 10, show (OPS.drop 446).take 10 = o_X3_init 222 223 by decide +kernel]
  rw [← e]
  exact c_X3_init_snd 222 223 (mMk 446) (by decide +kernel) (by decide +kernel) (by decide)
set_option maxRecDepth 20000 in
set_option maxHeartbeats 4000000 in
theorem d_X3_init_228 {fm : Value} {L : Nat} {xs : Nat → Int32} : mS fm L xs (fun _ : Unit => (mU, mMk 468)) pg_X3_init 0 (m_entry [.ref 228] 1) [] (mMk 458) (some ()) := by
  have e : c_X3_init 228 229 (mMk 458) = mMk 468 := by
    rw [c_X3_init_o, show mMk 468 = _ from mMk_add 458 10, show (OPS.drop 458).take 10 = o_X3_init 228 229 by decide +kernel]
  rw [← e]
  exact c_X3_init_snd 228 229 (mMk 458) (by decide +kernel) (by decide +kernel) (by decide)
set_option maxRecDepth 20000 in
set_option maxHeartbeats 4000000 in
theorem d_X7_init {fm : Value} {L : Nat} {xs : Nat → Int32} : mS fm L xs (fun _ : Unit => (mU, mMk 480)) pg_X7_init 0 (m_entry [.ref 234] 1) [] (mMk 470) (some ()) := by
  have e : c_X7_init (mMk 470) = mMk 480 := by
    rw [c_X7_init_o, show mMk 480 = _ from mMk_add 470 10, show (OPS.drop 470).take 10 = o_X7_init by decide +kernel]
  rw [← e]
  exact c_X7_init_snd (mMk 470) (by decide +kernel) (by decide +kernel)
set_option maxRecDepth 20000 in
set_option maxHeartbeats 4000000 in
theorem d_X9_init {fm : Value} {L : Nat} {xs : Nat → Int32} : mS fm L xs (fun _ : Unit => (mU, mMk 490)) pg_X9_init 0 (m_entry [.ref 240] 1) [] (mMk 482) (some ()) := by
  have e : c_X9_init (mMk 482) = mMk 490 := by
    rw [c_X9_init_o, show mMk 490 = _ from mMk_add 482 8, show (OPS.drop 482).take 8 = o_X9_init by decide +kernel]
  rw [← e]
  exact c_X9_init_snd (mMk 482) (by decide +kernel) (by decide +kernel)
set_option maxRecDepth 20000 in
set_option maxHeartbeats 4000000 in
theorem d_X0_init {fm : Value} {L : Nat} {xs : Nat → Int32} : mS fm L xs (fun _ : Unit => (mU, mMk 502)) pg_X0_init 0 (m_entry [.ref 245] 1) [] (mMk 492) (some ()) := by
  have e : c_X0_init (mMk 492) = mMk 502 := by
    rw [c_X0_init_o, show mMk 502 = _ from mMk_add 492 10, show (OPS.drop 492).take 10 = o_X0_init by decide +kernel]
  rw [← e]
  exact c_X0_init_snd (mMk 492) (by decide +kernel) (by decide +kernel)
set_option maxRecDepth 20000 in
set_option maxHeartbeats 4000000 in
theorem d_X8_init {fm : Value} {L : Nat} {xs : Nat → Int32} : mS fm L xs (fun _ : Unit => (mU, mMk 506)) pg_X8_init 0 (m_entry [.ref 251] 1) [] (mMk 504) (some ()) := by
  have e : c_X8_init (mMk 504) = mMk 506 := by
    rw [c_X8_init_o, show mMk 506 = _ from mMk_add 504 2, show (OPS.drop 504).take 2 = o_X8_init by decide +kernel]
  rw [← e]
  exact c_X8_init_snd (mMk 504) (by decide +kernel) (by decide +kernel)
set_option maxRecDepth 20000 in
set_option maxHeartbeats 4000000 in
theorem d_X4_init {fm : Value} {L : Nat} {xs : Nat → Int32} : mS fm L xs (fun _ : Unit => (mU, mMk 512)) pg_X4_init 0 (m_entry [.ref 254] 1) [] (mMk 510) (some ()) := by
  have e : c_X4_init (mMk 510) = mMk 512 := by
    rw [c_X4_init_o, show mMk 512 = _ from mMk_add 510 2, show (OPS.drop 510).take 2 = o_X4_init by decide +kernel]
  rw [← e]
  exact c_X4_init_snd (mMk 510) (by decide +kernel) (by decide +kernel)
set_option maxRecDepth 20000 in
set_option maxHeartbeats 4000000 in
theorem d_X1_init {fm : Value} {L : Nat} {xs : Nat → Int32} : mS fm L xs (fun _ : Unit => (mU, mMk 528)) pg_X1_init 0 (m_entry [.ref 256] 1) [] (mMk 514) (some ()) := by
  have e : c_X1_init (mMk 514) = mMk 528 := by
    rw [c_X1_init_o, show mMk 528 = _ from mMk_add 514 14, show (OPS.drop 514).take 14 = o_X1_init by decide +kernel]
  rw [← e]
  exact c_X1_init_snd (mMk 514) (by decide +kernel) (by decide +kernel)
set_option maxRecDepth 20000 in
set_option maxHeartbeats 4000000 in
theorem d_X6_init_264 {fm : Value} {L : Nat} {xs : Nat → Int32} : mS fm L xs (fun _ : Unit => (mU, mMk 538)) pg_X6_init 0 (m_entry [.ref 264] 1) [] (mMk 530) (some ()) := by
  have e : c_X6_init 264 265 (mMk 530) = mMk 538 := by
    rw [c_X6_init_o, show mMk 538 = _ from mMk_add 530 8, show (OPS.drop 530).take 8 = o_X6_init 264 265 by decide +kernel]
  rw [← e]
  exact c_X6_init_snd 264 265 (mMk 530) (by decide +kernel) (by decide +kernel) (by decide)
set_option maxRecDepth 20000 in
set_option maxHeartbeats 4000000 in
theorem d_X6_init_269 {fm : Value} {L : Nat} {xs : Nat → Int32} : mS fm L xs (fun _ : Unit => (mU, mMk 548)) pg_X6_init 0 (m_entry [.ref 269] 1) [] (mMk 540) (some ()) := by
  have e : c_X6_init 269 270 (mMk 540) = mMk 548 := by
    rw [c_X6_init_o, show mMk 548 = _ from mMk_add 540 8, show (OPS.drop 540).take 8 = o_X6_init 269 270 by decide +kernel]
  rw [← e]
  exact c_X6_init_snd 269 270 (mMk 540) (by decide +kernel) (by decide +kernel) (by decide)
set_option maxRecDepth 20000 in
set_option maxHeartbeats 4000000 in
theorem d_X6_init_274 {fm : Value} {L : Nat} {xs : Nat → Int32} : mS fm L xs (fun _ : Unit => (mU, mMk 558)) pg_X6_init 0 (m_entry [.ref 274] 1) [] (mMk 550) (some ()) := by
  have e : c_X6_init 274 275 (mMk 550) = mMk 558 := by
    rw [c_X6_init_o, show mMk 558 = _ from mMk_add 550 8, show (OPS.drop 550).take 8 = o_X6_init 274 275 by decide +kernel]
  rw [← e]
  exact c_X6_init_snd 274 275 (mMk 550) (by decide +kernel) (by decide +kernel) (by decide)
set_option maxRecDepth 20000 in
set_option maxHeartbeats 4000000 in
theorem d_X10_init {fm : Value} {L : Nat} {xs : Nat → Int32} : mS fm L xs (fun _ : Unit => (mU, mMk 559)) pg_X10_init 0 (m_entry [.ref 0] 2) [] (mMk 1) (some ()) := by
  refine mS_steps (pc' := 5) (ls' := [.ref 0, mU]) (st' := [.ref 0]) (mem' := mMk 1) 3 rfl ?_
  refine mS_nwK (a := 1) rfl (by decide +kernel) (by decide) (by decide +kernel) ?_
  refine mS_steps (pc' := 9) (ls' := [.ref 0, mU]) (st' := [.ref 1, .ref 1, .ref 0]) (mem' := mMk 2) 1 rfl ?_
  refine mS_call (q := ()) 1 1 [.ref 1] [.ref 1, .ref 0] rfl rfl rfl ⟨_, _, _, rfl, rfl⟩ (Nat.le_of_ble_eq_true rfl) (Nat.le_of_ble_eq_true rfl) rfl d_X5_init ?_
  refine mS_steps (pc' := 12) (ls' := [.ref 0, mU]) (st' := [.ref 1, .ref 0]) (mem' := mMk 28) 0 rfl ?_
  refine mS_steps (pc' := 12) (ls' := [.ref 0, mU]) (st' := [.ref 1, .ref 0]) (mem' := mMk 28) 0 rfl ?_
  refine mS_prK (n := 16) rfl (by decide +kernel) (by decide) (by decide) (by decide +kernel) ?_
  refine mS_steps (pc' := 16) (ls' := [.ref 0, mU]) (st' := [.ref 0]) (mem' := mMk 29) 1 rfl ?_
  refine mS_nwK (a := 14) rfl (by decide +kernel) (by decide) (by decide +kernel) ?_
  refine mS_steps (pc' := 20) (ls' := [.ref 0, mU]) (st' := [.ref 14, .ref 14, .ref 0]) (mem' := mMk 30) 1 rfl ?_
  refine mS_call (q := ()) 0 1 [.ref 14] [.ref 14, .ref 0] rfl rfl rfl ⟨_, _, _, rfl, rfl⟩ (Nat.le_of_ble_eq_true rfl) (Nat.le_of_ble_eq_true rfl) rfl d_X6_init_14 ?_
  refine mS_steps (pc' := 23) (ls' := [.ref 0, mU]) (st' := [.ref 14, .ref 0]) (mem' := mMk 38) 0 rfl ?_
  refine mS_steps (pc' := 23) (ls' := [.ref 0, mU]) (st' := [.ref 14, .ref 0]) (mem' := mMk 38) 0 rfl ?_
  refine mS_prK (n := 16) rfl (by decide +kernel) (by decide) (by decide) (by decide +kernel) ?_
  refine mS_steps (pc' := 27) (ls' := [.ref 0, mU]) (st' := [.ref 0]) (mem' := mMk 39) 1 rfl ?_
  refine mS_nwK (a := 19) rfl (by decide +kernel) (by decide) (by decide +kernel) ?_
  refine mS_steps (pc' := 31) (ls' := [.ref 0, mU]) (st' := [.ref 19, .ref 19, .ref 0]) (mem' := mMk 40) 1 rfl ?_
  refine mS_call (q := ()) 2 1 [.ref 19] [.ref 19, .ref 0] rfl rfl rfl ⟨_, _, _, rfl, rfl⟩ (Nat.le_of_ble_eq_true rfl) (Nat.le_of_ble_eq_true rfl) rfl d_X2_init ?_
  refine mS_steps (pc' := 34) (ls' := [.ref 0, mU]) (st' := [.ref 19, .ref 0]) (mem' := mMk 442) 0 rfl ?_
  refine mS_steps (pc' := 34) (ls' := [.ref 0, mU]) (st' := [.ref 19, .ref 0]) (mem' := mMk 442) 0 rfl ?_
  refine mS_prK (n := 16) rfl (by decide +kernel) (by decide) (by decide) (by decide +kernel) ?_
  refine mS_steps (pc' := 39) (ls' := [.ref 0, mU]) (st' := [.int (3 : Int32), .ref 0]) (mem' := mMk 443) 2 rfl ?_
  refine mS_naK (a := 221) (N := 3) rfl (by decide +kernel) (by decide) (by decide) (by decide) (by decide) (by decide +kernel) ?_
  refine mS_steps (pc' := 42) (ls' := [.ref 0, mU]) (st' := [.ref 221, .ref 0]) (mem' := mMk 444) 0 rfl ?_
  refine mS_prK (n := 16) rfl (by decide +kernel) (by decide) (by decide) (by decide +kernel) ?_
  refine mS_steps (pc' := 46) (ls' := [.ref 0, mU]) (st' := [.ref 0]) (mem' := mMk 445) 1 rfl ?_
  refine mS_nwK (a := 222) rfl (by decide +kernel) (by decide) (by decide +kernel) ?_
  refine mS_steps (pc' := 50) (ls' := [.ref 0, mU]) (st' := [.ref 222, .ref 222, .ref 0]) (mem' := mMk 446) 1 rfl ?_
  refine mS_call (q := ()) 3 1 [.ref 222] [.ref 222, .ref 0] rfl rfl rfl ⟨_, _, _, rfl, rfl⟩ (Nat.le_of_ble_eq_true rfl) (Nat.le_of_ble_eq_true rfl) rfl d_X3_init_222 ?_
  refine mS_steps (pc' := 53) (ls' := [.ref 0, mU]) (st' := [.ref 222, .ref 0]) (mem' := mMk 456) 0 rfl ?_
  refine mS_steps (pc' := 53) (ls' := [.ref 0, mU]) (st' := [.ref 222, .ref 0]) (mem' := mMk 456) 0 rfl ?_
  refine mS_prK (n := 16) rfl (by decide +kernel) (by decide) (by decide) (by decide +kernel) ?_
  refine mS_steps (pc' := 57) (ls' := [.ref 0, mU]) (st' := [.ref 0]) (mem' := mMk 457) 1 rfl ?_
  refine mS_nwK (a := 228) rfl (by decide +kernel) (by decide) (by decide +kernel) ?_
  refine mS_steps (pc' := 61) (ls' := [.ref 0, mU]) (st' := [.ref 228, .ref 228, .ref 0]) (mem' := mMk 458) 1 rfl ?_
  refine mS_call (q := ()) 3 1 [.ref 228] [.ref 228, .ref 0] rfl rfl rfl ⟨_, _, _, rfl, rfl⟩ (Nat.le_of_ble_eq_true rfl) (Nat.le_of_ble_eq_true rfl) rfl d_X3_init_228 ?_
  refine mS_steps (pc' := 64) (ls' := [.ref 0, mU]) (st' := [.ref 228, .ref 0]) (mem' := mMk 468) 0 rfl ?_
  refine mS_steps (pc' := 64) (ls' := [.ref 0, mU]) (st' := [.ref 228, .ref 0]) (mem' := mMk 468) 0 rfl ?_
  refine mS_prK (n := 16) rfl (by decide +kernel) (by decide) (by decide) (by decide +kernel) ?_
  refine mS_steps (pc' := 68) (ls' := [.ref 0, mU]) (st' := [.ref 0]) (mem' := mMk 469) 1 rfl ?_
  refine mS_nwK (a := 234) rfl (by decide +kernel) (by decide) (by decide +kernel) ?_
  refine mS_steps (pc' := 72) (ls' := [.ref 0, mU]) (st' := [.ref 234, .ref 234, .ref 0]) (mem' := mMk 470) 1 rfl ?_
  refine mS_call (q := ()) 4 1 [.ref 234] [.ref 234, .ref 0] rfl rfl rfl ⟨_, _, _, rfl, rfl⟩ (Nat.le_of_ble_eq_true rfl) (Nat.le_of_ble_eq_true rfl) rfl d_X7_init ?_
  refine mS_steps (pc' := 75) (ls' := [.ref 0, mU]) (st' := [.ref 234, .ref 0]) (mem' := mMk 480) 0 rfl ?_
  refine mS_steps (pc' := 75) (ls' := [.ref 0, mU]) (st' := [.ref 234, .ref 0]) (mem' := mMk 480) 0 rfl ?_
  refine mS_prK (n := 16) rfl (by decide +kernel) (by decide) (by decide) (by decide +kernel) ?_
  refine mS_steps (pc' := 79) (ls' := [.ref 0, mU]) (st' := [.ref 0]) (mem' := mMk 481) 1 rfl ?_
  refine mS_nwK (a := 240) rfl (by decide +kernel) (by decide) (by decide +kernel) ?_
  refine mS_steps (pc' := 83) (ls' := [.ref 0, mU]) (st' := [.ref 240, .ref 240, .ref 0]) (mem' := mMk 482) 1 rfl ?_
  refine mS_call (q := ()) 5 1 [.ref 240] [.ref 240, .ref 0] rfl rfl rfl ⟨_, _, _, rfl, rfl⟩ (Nat.le_of_ble_eq_true rfl) (Nat.le_of_ble_eq_true rfl) rfl d_X9_init ?_
  refine mS_steps (pc' := 86) (ls' := [.ref 0, mU]) (st' := [.ref 240, .ref 0]) (mem' := mMk 490) 0 rfl ?_
  refine mS_steps (pc' := 86) (ls' := [.ref 0, mU]) (st' := [.ref 240, .ref 0]) (mem' := mMk 490) 0 rfl ?_
  refine mS_prK (n := 16) rfl (by decide +kernel) (by decide) (by decide) (by decide +kernel) ?_
  refine mS_steps (pc' := 90) (ls' := [.ref 0, mU]) (st' := [.ref 0]) (mem' := mMk 491) 1 rfl ?_
  refine mS_nwK (a := 245) rfl (by decide +kernel) (by decide) (by decide +kernel) ?_
  refine mS_steps (pc' := 94) (ls' := [.ref 0, mU]) (st' := [.ref 245, .ref 245, .ref 0]) (mem' := mMk 492) 1 rfl ?_
  refine mS_call (q := ()) 6 1 [.ref 245] [.ref 245, .ref 0] rfl rfl rfl ⟨_, _, _, rfl, rfl⟩ (Nat.le_of_ble_eq_true rfl) (Nat.le_of_ble_eq_true rfl) rfl d_X0_init ?_
  refine mS_steps (pc' := 97) (ls' := [.ref 0, mU]) (st' := [.ref 245, .ref 0]) (mem' := mMk 502) 0 rfl ?_
  refine mS_steps (pc' := 97) (ls' := [.ref 0, mU]) (st' := [.ref 245, .ref 0]) (mem' := mMk 502) 0 rfl ?_
  refine mS_prK (n := 16) rfl (by decide +kernel) (by decide) (by decide) (by decide +kernel) ?_
  refine mS_steps (pc' := 101) (ls' := [.ref 0, mU]) (st' := [.ref 0]) (mem' := mMk 503) 1 rfl ?_
  refine mS_nwK (a := 251) rfl (by decide +kernel) (by decide) (by decide +kernel) ?_
  refine mS_steps (pc' := 105) (ls' := [.ref 0, mU]) (st' := [.ref 251, .ref 251, .ref 0]) (mem' := mMk 504) 1 rfl ?_
  refine mS_call (q := ()) 7 1 [.ref 251] [.ref 251, .ref 0] rfl rfl rfl ⟨_, _, _, rfl, rfl⟩ (Nat.le_of_ble_eq_true rfl) (Nat.le_of_ble_eq_true rfl) rfl d_X8_init ?_
  refine mS_steps (pc' := 108) (ls' := [.ref 0, mU]) (st' := [.ref 251, .ref 0]) (mem' := mMk 506) 0 rfl ?_
  refine mS_steps (pc' := 108) (ls' := [.ref 0, mU]) (st' := [.ref 251, .ref 0]) (mem' := mMk 506) 0 rfl ?_
  refine mS_prK (n := 16) rfl (by decide +kernel) (by decide) (by decide) (by decide +kernel) ?_
  refine mS_steps (pc' := 114) (ls' := [.ref 0, mU]) (st' := [.int (16 : Int32), .ref 0]) (mem' := mMk 507) 2 rfl ?_
  refine mS_naK (a := 253) (N := 16) rfl (by decide +kernel) (by decide) (by decide) (by decide) (by decide) (by decide +kernel) ?_
  refine mS_steps (pc' := 116) (ls' := [.ref 0, mU]) (st' := [.ref 253, .ref 0]) (mem' := mMk 508) 0 rfl ?_
  refine mS_prK (n := 16) rfl (by decide +kernel) (by decide) (by decide) (by decide +kernel) ?_
  refine mS_steps (pc' := 120) (ls' := [.ref 0, mU]) (st' := [.ref 0]) (mem' := mMk 509) 1 rfl ?_
  refine mS_nwK (a := 254) rfl (by decide +kernel) (by decide) (by decide +kernel) ?_
  refine mS_steps (pc' := 124) (ls' := [.ref 0, mU]) (st' := [.ref 254, .ref 254, .ref 0]) (mem' := mMk 510) 1 rfl ?_
  refine mS_call (q := ()) 8 1 [.ref 254] [.ref 254, .ref 0] rfl rfl rfl ⟨_, _, _, rfl, rfl⟩ (Nat.le_of_ble_eq_true rfl) (Nat.le_of_ble_eq_true rfl) rfl d_X4_init ?_
  refine mS_steps (pc' := 127) (ls' := [.ref 0, mU]) (st' := [.ref 254, .ref 0]) (mem' := mMk 512) 0 rfl ?_
  refine mS_steps (pc' := 127) (ls' := [.ref 0, mU]) (st' := [.ref 254, .ref 0]) (mem' := mMk 512) 0 rfl ?_
  refine mS_prK (n := 16) rfl (by decide +kernel) (by decide) (by decide) (by decide +kernel) ?_
  refine mS_steps (pc' := 131) (ls' := [.ref 0, mU]) (st' := [.ref 0]) (mem' := mMk 513) 1 rfl ?_
  refine mS_nwK (a := 256) rfl (by decide +kernel) (by decide) (by decide +kernel) ?_
  refine mS_steps (pc' := 135) (ls' := [.ref 0, mU]) (st' := [.ref 256, .ref 256, .ref 0]) (mem' := mMk 514) 1 rfl ?_
  refine mS_call (q := ()) 9 1 [.ref 256] [.ref 256, .ref 0] rfl rfl rfl ⟨_, _, _, rfl, rfl⟩ (Nat.le_of_ble_eq_true rfl) (Nat.le_of_ble_eq_true rfl) rfl d_X1_init ?_
  refine mS_steps (pc' := 138) (ls' := [.ref 0, mU]) (st' := [.ref 256, .ref 0]) (mem' := mMk 528) 0 rfl ?_
  refine mS_steps (pc' := 138) (ls' := [.ref 0, mU]) (st' := [.ref 256, .ref 0]) (mem' := mMk 528) 0 rfl ?_
  refine mS_prK (n := 16) rfl (by decide +kernel) (by decide) (by decide) (by decide +kernel) ?_
  refine mS_steps (pc' := 145) (ls' := [.ref 0, .int (0 : Int32)]) (st' := [.int (3 : Int32), .int (0 : Int32)]) (mem' := mMk 529) 4 rfl ?_
  refine mS_one (pc' := 148) (ls' := [.ref 0, .int (0 : Int32)]) (st' := []) (mem' := mMk 529) rfl (by decide) (by show some (bif decide ((3 : Int32) ≤ 0) then _ else _, _, _, _) = _; rw [show decide ((3 : Int32) ≤ 0) = false from by decide]; rfl) ?_
  refine mS_steps (pc' := 149) (ls' := [.ref 0, .int (0 : Int32)]) (st' := [.ref 0]) (mem' := mMk 529) 1 rfl ?_
  refine mS_getg (n := 16) (r := 221) rfl (by decide +kernel) (by decide) (by decide) (by decide +kernel) ?_
  refine mS_steps (pc' := 153) (ls' := [.ref 0, .int (0 : Int32)]) (st' := [.int (0 : Int32), .ref 221]) (mem' := mMk 529) 1 rfl ?_
  refine mS_nwK (a := 264) rfl (by decide +kernel) (by decide) (by decide +kernel) ?_
  refine mS_steps (pc' := 157) (ls' := [.ref 0, .int (0 : Int32)]) (st' := [.ref 264, .ref 264, .int (0 : Int32), .ref 221]) (mem' := mMk 530) 1 rfl ?_
  refine mS_call (q := ()) 0 1 [.ref 264] [.ref 264, .int (0 : Int32), .ref 221] rfl rfl rfl ⟨_, _, _, rfl, rfl⟩ (Nat.le_of_ble_eq_true rfl) (Nat.le_of_ble_eq_true rfl) rfl d_X6_init_264 ?_
  refine mS_steps (pc' := 160) (ls' := [.ref 0, .int (0 : Int32)]) (st' := [.ref 264, .int (0 : Int32), .ref 221]) (mem' := mMk 538) 0 rfl ?_
  refine mS_steps (pc' := 160) (ls' := [.ref 0, .int (0 : Int32)]) (st' := [.ref 264, .int (0 : Int32), .ref 221]) (mem' := mMk 538) 0 rfl ?_
  refine mS_aaK (n := 3) (N := 14) (c := 0) rfl (by decide +kernel) (by decide) (by decide +kernel) (by decide) (by decide) (by decide) (by decide +kernel) ?_
  refine mS_steps (pc' := 161) (ls' := [.ref 0, .int (0 : Int32)]) (st' := []) (mem' := mMk 539) 0 rfl ?_
  refine mS_one (pc' := 164) (ls' := [.ref 0, .int (1 : Int32)]) (st' := []) (mem' := mMk 539) rfl (by decide) (by show some (_, [Value.ref 0, Value.int ((0 : Int32) + 1)], _, _) = _; rw [show ((0 : Int32) + 1) = 1 from by decide]) ?_
  refine mS_steps (pc' := 145) (ls' := [.ref 0, .int (1 : Int32)]) (st' := [.int (3 : Int32), .int (1 : Int32)]) (mem' := mMk 539) 3 rfl ?_
  refine mS_one (pc' := 148) (ls' := [.ref 0, .int (1 : Int32)]) (st' := []) (mem' := mMk 539) rfl (by decide) (by show some (bif decide ((3 : Int32) ≤ 1) then _ else _, _, _, _) = _; rw [show decide ((3 : Int32) ≤ 1) = false from by decide]; rfl) ?_
  refine mS_steps (pc' := 149) (ls' := [.ref 0, .int (1 : Int32)]) (st' := [.ref 0]) (mem' := mMk 539) 1 rfl ?_
  refine mS_getg (n := 16) (r := 221) rfl (by decide +kernel) (by decide) (by decide) (by decide +kernel) ?_
  refine mS_steps (pc' := 153) (ls' := [.ref 0, .int (1 : Int32)]) (st' := [.int (1 : Int32), .ref 221]) (mem' := mMk 539) 1 rfl ?_
  refine mS_nwK (a := 269) rfl (by decide +kernel) (by decide) (by decide +kernel) ?_
  refine mS_steps (pc' := 157) (ls' := [.ref 0, .int (1 : Int32)]) (st' := [.ref 269, .ref 269, .int (1 : Int32), .ref 221]) (mem' := mMk 540) 1 rfl ?_
  refine mS_call (q := ()) 0 1 [.ref 269] [.ref 269, .int (1 : Int32), .ref 221] rfl rfl rfl ⟨_, _, _, rfl, rfl⟩ (Nat.le_of_ble_eq_true rfl) (Nat.le_of_ble_eq_true rfl) rfl d_X6_init_269 ?_
  refine mS_steps (pc' := 160) (ls' := [.ref 0, .int (1 : Int32)]) (st' := [.ref 269, .int (1 : Int32), .ref 221]) (mem' := mMk 548) 0 rfl ?_
  refine mS_steps (pc' := 160) (ls' := [.ref 0, .int (1 : Int32)]) (st' := [.ref 269, .int (1 : Int32), .ref 221]) (mem' := mMk 548) 0 rfl ?_
  refine mS_aaK (n := 3) (N := 14) (c := 1) rfl (by decide +kernel) (by decide) (by decide +kernel) (by decide) (by decide) (by decide) (by decide +kernel) ?_
  refine mS_steps (pc' := 161) (ls' := [.ref 0, .int (1 : Int32)]) (st' := []) (mem' := mMk 549) 0 rfl ?_
  refine mS_one (pc' := 164) (ls' := [.ref 0, .int (2 : Int32)]) (st' := []) (mem' := mMk 549) rfl (by decide) (by show some (_, [Value.ref 0, Value.int ((1 : Int32) + 1)], _, _) = _; rw [show ((1 : Int32) + 1) = 2 from by decide]) ?_
  refine mS_steps (pc' := 145) (ls' := [.ref 0, .int (2 : Int32)]) (st' := [.int (3 : Int32), .int (2 : Int32)]) (mem' := mMk 549) 3 rfl ?_
  refine mS_one (pc' := 148) (ls' := [.ref 0, .int (2 : Int32)]) (st' := []) (mem' := mMk 549) rfl (by decide) (by show some (bif decide ((3 : Int32) ≤ 2) then _ else _, _, _, _) = _; rw [show decide ((3 : Int32) ≤ 2) = false from by decide]; rfl) ?_
  refine mS_steps (pc' := 149) (ls' := [.ref 0, .int (2 : Int32)]) (st' := [.ref 0]) (mem' := mMk 549) 1 rfl ?_
  refine mS_getg (n := 16) (r := 221) rfl (by decide +kernel) (by decide) (by decide) (by decide +kernel) ?_
  refine mS_steps (pc' := 153) (ls' := [.ref 0, .int (2 : Int32)]) (st' := [.int (2 : Int32), .ref 221]) (mem' := mMk 549) 1 rfl ?_
  refine mS_nwK (a := 274) rfl (by decide +kernel) (by decide) (by decide +kernel) ?_
  refine mS_steps (pc' := 157) (ls' := [.ref 0, .int (2 : Int32)]) (st' := [.ref 274, .ref 274, .int (2 : Int32), .ref 221]) (mem' := mMk 550) 1 rfl ?_
  refine mS_call (q := ()) 0 1 [.ref 274] [.ref 274, .int (2 : Int32), .ref 221] rfl rfl rfl ⟨_, _, _, rfl, rfl⟩ (Nat.le_of_ble_eq_true rfl) (Nat.le_of_ble_eq_true rfl) rfl d_X6_init_274 ?_
  refine mS_steps (pc' := 160) (ls' := [.ref 0, .int (2 : Int32)]) (st' := [.ref 274, .int (2 : Int32), .ref 221]) (mem' := mMk 558) 0 rfl ?_
  refine mS_steps (pc' := 160) (ls' := [.ref 0, .int (2 : Int32)]) (st' := [.ref 274, .int (2 : Int32), .ref 221]) (mem' := mMk 558) 0 rfl ?_
  refine mS_aaK (n := 3) (N := 14) (c := 2) rfl (by decide +kernel) (by decide) (by decide +kernel) (by decide) (by decide) (by decide) (by decide +kernel) ?_
  refine mS_steps (pc' := 161) (ls' := [.ref 0, .int (2 : Int32)]) (st' := []) (mem' := mMk 559) 0 rfl ?_
  refine mS_one (pc' := 164) (ls' := [.ref 0, .int (3 : Int32)]) (st' := []) (mem' := mMk 559) rfl (by decide) (by show some (_, [Value.ref 0, Value.int ((2 : Int32) + 1)], _, _) = _; rw [show ((2 : Int32) + 1) = 3 from by decide]) ?_
  refine mS_steps (pc' := 145) (ls' := [.ref 0, .int (3 : Int32)]) (st' := [.int (3 : Int32), .int (3 : Int32)]) (mem' := mMk 559) 3 rfl ?_
  refine mS_one (pc' := 167) (ls' := [.ref 0, .int (3 : Int32)]) (st' := []) (mem' := mMk 559) rfl (by decide) (by show some (bif decide ((3 : Int32) ≤ 3) then _ else _, _, _, _) = _; rw [show decide ((3 : Int32) ≤ 3) = true from by decide]; rfl) ?_
  refine mS_steps (pc' := 167) (ls' := [.ref 0, .int (3 : Int32)]) (st' := []) (mem' := mMk 559) 0 rfl ?_
  exact mS_retv ⟨_, _, _, _, _, rfl⟩ rfl
