/-! ===== methods as functions (written by wip/whole/gen/emit.py) ===== -/
def f_X10_has (p0 : Int32) (p1 : Int32) : Int32 := (if ((p0 >>> (p1 &&& 31)) &&& (1 : Int32)) = 0 then (0 : Int32) else (1 : Int32))
set_option maxRecDepth 20000 in
set_option maxHeartbeats 2000000 in
theorem f_X10_has_snd {fm : Value} {L : Nat} {xs : Nat → Int32} (p0 : Int32) (p1 : Int32) (mem : mM) : mS fm L xs (fun r : Int32 => (.int r, mem)) pg_X10_has 0 (m_entry [.int p0, .int p1] 2) [] mem (some (f_X10_has p0 p1)) := by
  unfold f_X10_has
  refine mS_steps (pc' := 0) (ls' := [.int p0, .int p1]) (st' := []) (mem' := mem) 0 rfl ?_
  refine mS_steps (pc' := 5) (ls' := [.int p0, .int p1]) (st' := [.int ((p0 >>> (p1 &&& 31)) &&& (1 : Int32))]) (mem' := mem) 5 rfl ?_
  refine mS_if0T rfl (fun _ => ?_) (fun _ => ?_)
  · refine mS_steps (pc' := 13) (ls' := [.int p0, .int p1]) (st' := [.int (0 : Int32)]) (mem' := mem) 1 rfl ?_
    exact mS_reti ⟨_, _, _, _, _, rfl, (by decide)⟩ rfl
  · refine mS_steps (pc' := 13) (ls' := [.int p0, .int p1]) (st' := [.int (1 : Int32)]) (mem' := mem) 2 rfl ?_
    exact mS_reti ⟨_, _, _, _, _, rfl, (by decide)⟩ rfl
def f_X10_lowest_L2 (a0 : Int32) : Nat → Int32 → Option Int32
  | 0, _ => none
  | n + 1, a1 => (if (8 : Int32) ≤ a1 then (some (-1 : Int32)) else (if ((a0 >>> (a1 &&& 31)) &&& (1 : Int32)) = 0 then (f_X10_lowest_L2 a0 n (a1 + (1 : Int32))) else (some a1)))
def f_X10_lowest (p0 : Int32) : Option Int32 := (f_X10_lowest_L2 p0 mF (0 : Int32))
set_option maxRecDepth 20000 in
set_option maxHeartbeats 2000000 in
theorem f_X10_lowest_L2_snd {fm : Value} {L : Nat} {xs : Nat → Int32} (a0 : Int32) (mem : mM) : ∀ (n : Nat) (a1 : Int32), mS fm L xs (fun r : Int32 => (.int r, mem)) pg_X10_lowest 2 [.int a0, .int a1] [] mem (f_X10_lowest_L2 a0 n a1) := by
  intro n
  induction n with
  | zero => intro a1; exact mS_none
  | succ n ih =>
    intro a1
    rw [f_X10_lowest_L2]
    refine mS_steps (pc' := 5) (ls' := [.int a0, .int a1]) (st' := [.int (8 : Int32), .int a1]) (mem' := mem) 2 rfl ?_
    refine mS_ic3 rfl (fun _ => ?_) (fun _ => ?_)
    · refine mS_steps (pc' := 25) (ls' := [.int a0, .int a1]) (st' := [.int (-1 : Int32)]) (mem' := mem) 1 rfl ?_
      exact mS_reti ⟨_, _, _, _, _, rfl, rfl⟩ rfl
    · refine mS_steps (pc' := 13) (ls' := [.int a0, .int a1]) (st' := [.int ((a0 >>> (a1 &&& 31)) &&& (1 : Int32))]) (mem' := mem) 5 rfl ?_
      refine mS_if0 rfl (fun _ => ?_) (fun _ => ?_)
      · refine mS_steps (pc' := 2) (ls' := [.int a0, .int (a1 + (1 : Int32))]) (st' := []) (mem' := mem) 2 rfl ?_
        exact ih (a1 + (1 : Int32))
      · refine mS_steps (pc' := 17) (ls' := [.int a0, .int a1]) (st' := [.int a1]) (mem' := mem) 1 rfl ?_
        exact mS_reti ⟨_, _, _, _, _, rfl, rfl⟩ rfl
set_option maxRecDepth 20000 in
set_option maxHeartbeats 2000000 in
theorem f_X10_lowest_snd {fm : Value} {L : Nat} {xs : Nat → Int32} (p0 : Int32) (mem : mM) : mS fm L xs (fun r : Int32 => (.int r, mem)) pg_X10_lowest 0 (m_entry [.int p0] 2) [] mem ((f_X10_lowest p0)) := by
  unfold f_X10_lowest
  refine mS_steps (pc' := 0) (ls' := [.int p0, mU]) (st' := []) (mem' := mem) 0 rfl ?_
  refine mS_steps (pc' := 2) (ls' := [.int p0, .int (0 : Int32)]) (st' := []) (mem' := mem) 2 rfl ?_
  refine f_X10_lowest_L2_snd p0 mem mF (0 : Int32)
def f_X6_live_L4 (r0 : Nat) : Nat → Int32 → Int32 → mX → Option Int32
  | 0, _, _, _ => none
  | n + 1, a1, a2, x => (if (16 : Int32) ≤ a2 then (some a1) else (if (x.1 r0 1) ≤ a2 then (f_X6_live_L4 r0 n a1 (a2 + (1 : Int32)) x) else (if (f_X10_has (x.1 r0 3) a2) = 0 then (f_X6_live_L4 r0 n a1 (a2 + (1 : Int32)) x) else (if m_in a2 16 = true then (if (f_X10_has (x.1 r0 2) (x.1 (r0 + 1) a2.toNatClampNeg)) = 0 then (f_X6_live_L4 r0 n a1 (a2 + (1 : Int32)) x) else (if m_in a2 16 = true then (if (f_X10_has (x.1 r0 2) (x.1 (r0 + 2) a2.toNatClampNeg)) = 0 then (f_X6_live_L4 r0 n a1 (a2 + (1 : Int32)) x) else (f_X6_live_L4 r0 n (a1 ||| ((1 : Int32) <<< (a2 &&& 31))) (a2 + (1 : Int32)) x)) else none)) else none))))
def f_X6_live (r0 : Nat) (x : mX) : Option Int32 := (f_X6_live_L4 r0 mF (0 : Int32) (0 : Int32) x)
set_option maxRecDepth 20000 in
set_option maxHeartbeats 2000000 in
theorem f_X6_live_L4_2_snd {fm : Value} {L : Nat} {xs : Nat → Int32} (x : mX) (y : mY) : ∀ (n : Nat) (a1 : Int32) (a2 : Int32), mS fm L xs (fun r : Int32 => (.int r, (mk x y))) pg_X6_live 4 [.ref 2, .int a1, .int a2] [] (mk x y) (f_X6_live_L4 2 n a1 a2 x) := by
  intro n
  induction n with
  | zero => intro a1 a2; exact mS_none
  | succ n ih =>
    intro a1 a2
    rw [f_X6_live_L4]
    refine mS_steps (pc' := 7) (ls' := [.ref 2, .int a1, .int a2]) (st' := [.int (16 : Int32), .int a2]) (mem' := (mk x y)) 2 rfl ?_
    refine mS_ic3 rfl (fun _ => ?_) (fun _ => ?_)
    · refine mS_steps (pc' := 74) (ls' := [.ref 2, .int a1, .int a2]) (st' := [.int a1]) (mem' := (mk x y)) 1 rfl ?_
      exact mS_reti ⟨_, _, _, _, _, rfl, rfl⟩ rfl
    · refine mS_steps (pc' := 15) (ls' := [.ref 2, .int a1, .int a2]) (st' := [.int (x.1 2 1), .int a2]) (mem' := (mk x y)) 3 rfl ?_
      refine mS_ic3 rfl (fun _ => ?_) (fun _ => ?_)
      · refine mS_steps (pc' := 4) (ls' := [.ref 2, .int a1, .int (a2 + (1 : Int32))]) (st' := []) (mem' := (mk x y)) 2 rfl ?_
        exact ih a1 (a2 + (1 : Int32))
      · refine mS_steps (pc' := 23) (ls' := [.ref 2, .int a1, .int a2]) (st' := [.int a2, .int (x.1 2 3)]) (mem' := (mk x y)) 3 rfl ?_
        refine mS_call (q := (f_X10_has (x.1 2 3) a2)) 57 2 [.int (x.1 2 3), .int a2] [] rfl rfl rfl ⟨_, _, _, rfl, rfl⟩ (Nat.le_of_ble_eq_true rfl) (Nat.le_of_ble_eq_true rfl) rfl (f_X10_has_snd (x.1 2 3) a2 (mk x y)) ?_
        refine mS_steps (pc' := 26) (ls' := [.ref 2, .int a1, .int a2]) (st' := [.int (f_X10_has (x.1 2 3) a2)]) (mem' := (mk x y)) 0 rfl ?_
        refine mS_if0 rfl (fun _ => ?_) (fun _ => ?_)
        · refine mS_steps (pc' := 4) (ls' := [.ref 2, .int a1, .int (a2 + (1 : Int32))]) (st' := []) (mem' := (mk x y)) 2 rfl ?_
          exact ih a1 (a2 + (1 : Int32))
        · refine mS_steps (pc' := 38) (ls' := [.ref 2, .int a1, .int a2]) (st' := [.int a2, .ref 3, .int (x.1 2 2)]) (mem' := (mk x y)) 5 rfl ?_
          refine mS_ald (b := 0) (n := 16) (z := (x.1 (2 + 1) a2.toNatClampNeg)) rfl (by decide) rfl (by decide) rfl (fun _ => ?_)
          refine mS_call (q := (f_X10_has (x.1 2 2) (x.1 (2 + 1) a2.toNatClampNeg))) 57 2 [.int (x.1 2 2), .int (x.1 (2 + 1) a2.toNatClampNeg)] [] rfl rfl rfl ⟨_, _, _, rfl, rfl⟩ (Nat.le_of_ble_eq_true rfl) (Nat.le_of_ble_eq_true rfl) rfl (f_X10_has_snd (x.1 2 2) (x.1 (2 + 1) a2.toNatClampNeg) (mk x y)) ?_
          refine mS_steps (pc' := 42) (ls' := [.ref 2, .int a1, .int a2]) (st' := [.int (f_X10_has (x.1 2 2) (x.1 (2 + 1) a2.toNatClampNeg))]) (mem' := (mk x y)) 0 rfl ?_
          refine mS_if0 rfl (fun _ => ?_) (fun _ => ?_)
          · refine mS_steps (pc' := 4) (ls' := [.ref 2, .int a1, .int (a2 + (1 : Int32))]) (st' := []) (mem' := (mk x y)) 2 rfl ?_
            exact ih a1 (a2 + (1 : Int32))
          · refine mS_steps (pc' := 54) (ls' := [.ref 2, .int a1, .int a2]) (st' := [.int a2, .ref 4, .int (x.1 2 2)]) (mem' := (mk x y)) 5 rfl ?_
            refine mS_ald (b := 0) (n := 16) (z := (x.1 (2 + 2) a2.toNatClampNeg)) rfl (by decide) rfl (by decide) rfl (fun _ => ?_)
            refine mS_call (q := (f_X10_has (x.1 2 2) (x.1 (2 + 2) a2.toNatClampNeg))) 57 2 [.int (x.1 2 2), .int (x.1 (2 + 2) a2.toNatClampNeg)] [] rfl rfl rfl ⟨_, _, _, rfl, rfl⟩ (Nat.le_of_ble_eq_true rfl) (Nat.le_of_ble_eq_true rfl) rfl (f_X10_has_snd (x.1 2 2) (x.1 (2 + 2) a2.toNatClampNeg) (mk x y)) ?_
            refine mS_steps (pc' := 58) (ls' := [.ref 2, .int a1, .int a2]) (st' := [.int (f_X10_has (x.1 2 2) (x.1 (2 + 2) a2.toNatClampNeg))]) (mem' := (mk x y)) 0 rfl ?_
            refine mS_if0 rfl (fun _ => ?_) (fun _ => ?_)
            · refine mS_steps (pc' := 4) (ls' := [.ref 2, .int a1, .int (a2 + (1 : Int32))]) (st' := []) (mem' := (mk x y)) 2 rfl ?_
              exact ih a1 (a2 + (1 : Int32))
            · refine mS_steps (pc' := 4) (ls' := [.ref 2, .int (a1 ||| ((1 : Int32) <<< (a2 &&& 31))), .int (a2 + (1 : Int32))]) (st' := []) (mem' := (mk x y)) 8 rfl ?_
              exact ih (a1 ||| ((1 : Int32) <<< (a2 &&& 31))) (a2 + (1 : Int32))
set_option maxRecDepth 20000 in
set_option maxHeartbeats 2000000 in
theorem f_X6_live_2_snd {fm : Value} {L : Nat} {xs : Nat → Int32} (x : mX) (y : mY) : mS fm L xs (fun r : Int32 => (.int r, (mk x y))) pg_X6_live 0 (m_entry [.ref 2] 3) [] (mk x y) ((f_X6_live 2 x)) := by
  unfold f_X6_live
  refine mS_steps (pc' := 0) (ls' := [.ref 2, mU, mU]) (st' := []) (mem' := (mk x y)) 0 rfl ?_
  refine mS_steps (pc' := 4) (ls' := [.ref 2, .int (0 : Int32), .int (0 : Int32)]) (st' := []) (mem' := (mk x y)) 4 rfl ?_
  refine f_X6_live_L4_2_snd x y mF (0 : Int32) (0 : Int32)
set_option maxRecDepth 20000 in
set_option maxHeartbeats 2000000 in
theorem f_X6_live_L4_14_snd {fm : Value} {L : Nat} {xs : Nat → Int32} (x : mX) (y : mY) : ∀ (n : Nat) (a1 : Int32) (a2 : Int32), mS fm L xs (fun r : Int32 => (.int r, (mk x y))) pg_X6_live 4 [.ref 14, .int a1, .int a2] [] (mk x y) (f_X6_live_L4 14 n a1 a2 x) := by
  intro n
  induction n with
  | zero => intro a1 a2; exact mS_none
  | succ n ih =>
    intro a1 a2
    rw [f_X6_live_L4]
    refine mS_steps (pc' := 7) (ls' := [.ref 14, .int a1, .int a2]) (st' := [.int (16 : Int32), .int a2]) (mem' := (mk x y)) 2 rfl ?_
    refine mS_ic3 rfl (fun _ => ?_) (fun _ => ?_)
    · refine mS_steps (pc' := 74) (ls' := [.ref 14, .int a1, .int a2]) (st' := [.int a1]) (mem' := (mk x y)) 1 rfl ?_
      exact mS_reti ⟨_, _, _, _, _, rfl, rfl⟩ rfl
    · refine mS_steps (pc' := 15) (ls' := [.ref 14, .int a1, .int a2]) (st' := [.int (x.1 14 1), .int a2]) (mem' := (mk x y)) 3 rfl ?_
      refine mS_ic3 rfl (fun _ => ?_) (fun _ => ?_)
      · refine mS_steps (pc' := 4) (ls' := [.ref 14, .int a1, .int (a2 + (1 : Int32))]) (st' := []) (mem' := (mk x y)) 2 rfl ?_
        exact ih a1 (a2 + (1 : Int32))
      · refine mS_steps (pc' := 23) (ls' := [.ref 14, .int a1, .int a2]) (st' := [.int a2, .int (x.1 14 3)]) (mem' := (mk x y)) 3 rfl ?_
        refine mS_call (q := (f_X10_has (x.1 14 3) a2)) 57 2 [.int (x.1 14 3), .int a2] [] rfl rfl rfl ⟨_, _, _, rfl, rfl⟩ (Nat.le_of_ble_eq_true rfl) (Nat.le_of_ble_eq_true rfl) rfl (f_X10_has_snd (x.1 14 3) a2 (mk x y)) ?_
        refine mS_steps (pc' := 26) (ls' := [.ref 14, .int a1, .int a2]) (st' := [.int (f_X10_has (x.1 14 3) a2)]) (mem' := (mk x y)) 0 rfl ?_
        refine mS_if0 rfl (fun _ => ?_) (fun _ => ?_)
        · refine mS_steps (pc' := 4) (ls' := [.ref 14, .int a1, .int (a2 + (1 : Int32))]) (st' := []) (mem' := (mk x y)) 2 rfl ?_
          exact ih a1 (a2 + (1 : Int32))
        · refine mS_steps (pc' := 38) (ls' := [.ref 14, .int a1, .int a2]) (st' := [.int a2, .ref 15, .int (x.1 14 2)]) (mem' := (mk x y)) 5 rfl ?_
          refine mS_ald (b := 0) (n := 16) (z := (x.1 (14 + 1) a2.toNatClampNeg)) rfl (by decide) rfl (by decide) rfl (fun _ => ?_)
          refine mS_call (q := (f_X10_has (x.1 14 2) (x.1 (14 + 1) a2.toNatClampNeg))) 57 2 [.int (x.1 14 2), .int (x.1 (14 + 1) a2.toNatClampNeg)] [] rfl rfl rfl ⟨_, _, _, rfl, rfl⟩ (Nat.le_of_ble_eq_true rfl) (Nat.le_of_ble_eq_true rfl) rfl (f_X10_has_snd (x.1 14 2) (x.1 (14 + 1) a2.toNatClampNeg) (mk x y)) ?_
          refine mS_steps (pc' := 42) (ls' := [.ref 14, .int a1, .int a2]) (st' := [.int (f_X10_has (x.1 14 2) (x.1 (14 + 1) a2.toNatClampNeg))]) (mem' := (mk x y)) 0 rfl ?_
          refine mS_if0 rfl (fun _ => ?_) (fun _ => ?_)
          · refine mS_steps (pc' := 4) (ls' := [.ref 14, .int a1, .int (a2 + (1 : Int32))]) (st' := []) (mem' := (mk x y)) 2 rfl ?_
            exact ih a1 (a2 + (1 : Int32))
          · refine mS_steps (pc' := 54) (ls' := [.ref 14, .int a1, .int a2]) (st' := [.int a2, .ref 16, .int (x.1 14 2)]) (mem' := (mk x y)) 5 rfl ?_
            refine mS_ald (b := 0) (n := 16) (z := (x.1 (14 + 2) a2.toNatClampNeg)) rfl (by decide) rfl (by decide) rfl (fun _ => ?_)
            refine mS_call (q := (f_X10_has (x.1 14 2) (x.1 (14 + 2) a2.toNatClampNeg))) 57 2 [.int (x.1 14 2), .int (x.1 (14 + 2) a2.toNatClampNeg)] [] rfl rfl rfl ⟨_, _, _, rfl, rfl⟩ (Nat.le_of_ble_eq_true rfl) (Nat.le_of_ble_eq_true rfl) rfl (f_X10_has_snd (x.1 14 2) (x.1 (14 + 2) a2.toNatClampNeg) (mk x y)) ?_
            refine mS_steps (pc' := 58) (ls' := [.ref 14, .int a1, .int a2]) (st' := [.int (f_X10_has (x.1 14 2) (x.1 (14 + 2) a2.toNatClampNeg))]) (mem' := (mk x y)) 0 rfl ?_
            refine mS_if0 rfl (fun _ => ?_) (fun _ => ?_)
            · refine mS_steps (pc' := 4) (ls' := [.ref 14, .int a1, .int (a2 + (1 : Int32))]) (st' := []) (mem' := (mk x y)) 2 rfl ?_
              exact ih a1 (a2 + (1 : Int32))
            · refine mS_steps (pc' := 4) (ls' := [.ref 14, .int (a1 ||| ((1 : Int32) <<< (a2 &&& 31))), .int (a2 + (1 : Int32))]) (st' := []) (mem' := (mk x y)) 8 rfl ?_
              exact ih (a1 ||| ((1 : Int32) <<< (a2 &&& 31))) (a2 + (1 : Int32))
set_option maxRecDepth 20000 in
set_option maxHeartbeats 2000000 in
theorem f_X6_live_14_snd {fm : Value} {L : Nat} {xs : Nat → Int32} (x : mX) (y : mY) : mS fm L xs (fun r : Int32 => (.int r, (mk x y))) pg_X6_live 0 (m_entry [.ref 14] 3) [] (mk x y) ((f_X6_live 14 x)) := by
  unfold f_X6_live
  refine mS_steps (pc' := 0) (ls' := [.ref 14, mU, mU]) (st' := []) (mem' := (mk x y)) 0 rfl ?_
  refine mS_steps (pc' := 4) (ls' := [.ref 14, .int (0 : Int32), .int (0 : Int32)]) (st' := []) (mem' := (mk x y)) 4 rfl ?_
  refine f_X6_live_L4_14_snd x y mF (0 : Int32) (0 : Int32)
def f_X10_reach_L22 (r0 : Nat) (a2 : Int32) (a3 : Int32) : Nat → Int32 → Int32 → mX → (Int32 → Option Int32) → Option Int32
  | 0, _, _, _, _ => none
  | n + 1, a5, a6, x, k55 => (if (8 : Int32) ≤ a6 then (k55 a5) else (if ((a3 >>> (a6 &&& 31)) &&& (1 : Int32)) = 0 then (f_X10_reach_L22 r0 a2 a3 n a5 (a6 + (1 : Int32)) x k55) else (if m_in a6 8 = true then (f_X10_reach_L22 r0 a2 a3 n (a5 ||| ((x.1 r0 a6.toNatClampNeg) &&& a2)) (a6 + (1 : Int32)) x k55) else none)))
def f_X10_reach_L9 (r0 : Nat) (a2 : Int32) : Nat → Int32 → Int32 → mX → Option Int32
  | 0, _, _, _ => none
  | n + 1, a3, a4, x => (if (8 : Int32) ≤ a4 then (some a3) else (f_X10_reach_L22 r0 a2 a3 mF a3 (0 : Int32) x (fun v1 => (if v1 = a3 then (some a3) else (f_X10_reach_L9 r0 a2 n v1 (a4 + (1 : Int32)) x)))))
def f_X10_reach (r0 : Nat) (p1 : Int32) (p2 : Int32) (x : mX) : Option Int32 := (f_X10_reach_L9 r0 p2 mF (((1 : Int32) <<< (p1 &&& 31)) &&& p2) (0 : Int32) x)
set_option maxRecDepth 20000 in
set_option maxHeartbeats 2000000 in
theorem f_X10_reach_L22_229_snd {fm : Value} {L : Nat} {xs : Nat → Int32} (a2 : Int32) (a3 : Int32) (a4 : Int32) (x : mX) (y : mY) (k55 : Int32 → Option Int32) (hk55 : ∀ (b5 : Int32), mS fm L xs (fun r : Int32 => (.int r, (mk x y))) pg_X10_reach 55 [.ref 229, mU, .int a2, .int a3, .int a4, .int b5, mU] [] (mk x y) (k55 b5)) : ∀ (n : Nat) (a5 : Int32) (a6 : Int32), mS fm L xs (fun r : Int32 => (.int r, (mk x y))) pg_X10_reach 22 [.ref 229, mU, .int a2, .int a3, .int a4, .int a5, .int a6] [] (mk x y) (f_X10_reach_L22 229 a2 a3 n a5 a6 x k55) := by
  intro n
  induction n with
  | zero => intro a5 a6; exact mS_none
  | succ n ih =>
    intro a5 a6
    rw [f_X10_reach_L22]
    refine mS_steps (pc' := 26) (ls' := [.ref 229, mU, .int a2, .int a3, .int a4, .int a5, .int a6]) (st' := [.int (8 : Int32), .int a6]) (mem' := (mk x y)) 2 rfl ?_
    refine mS_ic3 rfl (fun _ => ?_) (fun _ => ?_)
    · refine mS_forget [.ref 229, mU, .int a2, .int a3, .int a4, .int a5, mU] ⟨Or.inr rfl, Or.inl rfl, Or.inr rfl, Or.inr rfl, Or.inr rfl, Or.inr rfl, Or.inl rfl, trivial⟩ ?_
      exact hk55 a5
    · refine mS_steps (pc' := 35) (ls' := [.ref 229, mU, .int a2, .int a3, .int a4, .int a5, .int a6]) (st' := [.int ((a3 >>> (a6 &&& 31)) &&& (1 : Int32))]) (mem' := (mk x y)) 5 rfl ?_
      refine mS_if0 rfl (fun _ => ?_) (fun _ => ?_)
      · refine mS_steps (pc' := 22) (ls' := [.ref 229, mU, .int a2, .int a3, .int a4, .int a5, .int (a6 + (1 : Int32))]) (st' := []) (mem' := (mk x y)) 2 rfl ?_
        exact ih a5 (a6 + (1 : Int32))
      · refine mS_steps (pc' := 43) (ls' := [.ref 229, mU, .int a2, .int a3, .int a4, .int a5, .int a6]) (st' := [.int a6, .ref 229, .int a5]) (mem' := (mk x y)) 3 rfl ?_
        refine mS_ald (b := 0) (n := 8) (z := (x.1 229 a6.toNatClampNeg)) rfl (by decide) rfl (by decide) rfl (fun _ => ?_)
        refine mS_steps (pc' := 22) (ls' := [.ref 229, mU, .int a2, .int a3, .int a4, .int (a5 ||| ((x.1 229 a6.toNatClampNeg) &&& a2)), .int (a6 + (1 : Int32))]) (st' := []) (mem' := (mk x y)) 6 rfl ?_
        exact ih (a5 ||| ((x.1 229 a6.toNatClampNeg) &&& a2)) (a6 + (1 : Int32))
set_option maxRecDepth 20000 in
set_option maxHeartbeats 2000000 in
theorem f_X10_reach_L9_229_snd {fm : Value} {L : Nat} {xs : Nat → Int32} (a2 : Int32) (x : mX) (y : mY) : ∀ (n : Nat) (a3 : Int32) (a4 : Int32), mS fm L xs (fun r : Int32 => (.int r, (mk x y))) pg_X10_reach 9 [.ref 229, mU, .int a2, .int a3, .int a4, mU, mU] [] (mk x y) (f_X10_reach_L9 229 a2 n a3 a4 x) := by
  intro n
  induction n with
  | zero => intro a3 a4; exact mS_none
  | succ n ih =>
    intro a3 a4
    rw [f_X10_reach_L9]
    refine mS_steps (pc' := 13) (ls' := [.ref 229, mU, .int a2, .int a3, .int a4, mU, mU]) (st' := [.int (8 : Int32), .int a4]) (mem' := (mk x y)) 2 rfl ?_
    refine mS_ic3 rfl (fun _ => ?_) (fun _ => ?_)
    · refine mS_steps (pc' := 74) (ls' := [.ref 229, mU, .int a2, .int a3, .int a4, mU, mU]) (st' := [.int a3]) (mem' := (mk x y)) 1 rfl ?_
      exact mS_reti ⟨_, _, _, _, _, rfl, rfl⟩ rfl
    · refine mS_steps (pc' := 22) (ls' := [.ref 229, mU, .int a2, .int a3, .int a4, .int a3, .int (0 : Int32)]) (st' := []) (mem' := (mk x y)) 4 rfl ?_
      refine f_X10_reach_L22_229_snd a2 a3 a4 x y _ ?_ mF a3 (0 : Int32)
      · intro v1
        refine mS_steps (pc' := 58) (ls' := [.ref 229, mU, .int a2, .int a3, .int a4, .int v1, mU]) (st' := [.int a3, .int v1]) (mem' := (mk x y)) 2 rfl ?_
        refine mS_ic1 rfl (fun _ => ?_) (fun _ => ?_)
        · refine mS_steps (pc' := 74) (ls' := [.ref 229, mU, .int a2, .int a3, .int a4, .int v1, mU]) (st' := [.int a3]) (mem' := (mk x y)) 2 rfl ?_
          exact mS_reti ⟨_, _, _, _, _, rfl, rfl⟩ rfl
        · refine mS_steps (pc' := 9) (ls' := [.ref 229, mU, .int a2, .int v1, .int (a4 + (1 : Int32)), .int v1, mU]) (st' := []) (mem' := (mk x y)) 4 rfl ?_
          refine mS_forget [.ref 229, mU, .int a2, .int v1, .int (a4 + (1 : Int32)), mU, mU] ⟨Or.inr rfl, Or.inl rfl, Or.inr rfl, Or.inr rfl, Or.inr rfl, Or.inl rfl, Or.inl rfl, trivial⟩ ?_
          exact ih v1 (a4 + (1 : Int32))
set_option maxRecDepth 20000 in
set_option maxHeartbeats 2000000 in
theorem f_X10_reach_229_snd {fm : Value} {L : Nat} {xs : Nat → Int32} (p1 : Int32) (p2 : Int32) (x : mX) (y : mY) : mS fm L xs (fun r : Int32 => (.int r, (mk x y))) pg_X10_reach 0 (m_entry [.ref 229, .int p1, .int p2] 7) [] (mk x y) ((f_X10_reach 229 p1 p2 x)) := by
  unfold f_X10_reach
  refine mS_steps (pc' := 0) (ls' := [.ref 229, .int p1, .int p2, mU, mU, mU, mU]) (st' := []) (mem' := (mk x y)) 0 rfl ?_
  refine mS_steps (pc' := 9) (ls' := [.ref 229, .int p1, .int p2, .int (((1 : Int32) <<< (p1 &&& 31)) &&& p2), .int (0 : Int32), mU, mU]) (st' := []) (mem' := (mk x y)) 8 rfl ?_
  refine mS_forget [.ref 229, mU, .int p2, .int (((1 : Int32) <<< (p1 &&& 31)) &&& p2), .int (0 : Int32), mU, mU] ⟨Or.inr rfl, Or.inl rfl, Or.inr rfl, Or.inr rfl, Or.inr rfl, Or.inl rfl, Or.inl rfl, trivial⟩ ?_
  refine f_X10_reach_L9_229_snd p2 x y mF (((1 : Int32) <<< (p1 &&& 31)) &&& p2) (0 : Int32)
set_option maxRecDepth 20000 in
set_option maxHeartbeats 2000000 in
theorem f_X10_reach_L22_223_snd {fm : Value} {L : Nat} {xs : Nat → Int32} (a2 : Int32) (a3 : Int32) (a4 : Int32) (x : mX) (y : mY) (k55 : Int32 → Option Int32) (hk55 : ∀ (b5 : Int32), mS fm L xs (fun r : Int32 => (.int r, (mk x y))) pg_X10_reach 55 [.ref 223, mU, .int a2, .int a3, .int a4, .int b5, mU] [] (mk x y) (k55 b5)) : ∀ (n : Nat) (a5 : Int32) (a6 : Int32), mS fm L xs (fun r : Int32 => (.int r, (mk x y))) pg_X10_reach 22 [.ref 223, mU, .int a2, .int a3, .int a4, .int a5, .int a6] [] (mk x y) (f_X10_reach_L22 223 a2 a3 n a5 a6 x k55) := by
  intro n
  induction n with
  | zero => intro a5 a6; exact mS_none
  | succ n ih =>
    intro a5 a6
    rw [f_X10_reach_L22]
    refine mS_steps (pc' := 26) (ls' := [.ref 223, mU, .int a2, .int a3, .int a4, .int a5, .int a6]) (st' := [.int (8 : Int32), .int a6]) (mem' := (mk x y)) 2 rfl ?_
    refine mS_ic3 rfl (fun _ => ?_) (fun _ => ?_)
    · refine mS_forget [.ref 223, mU, .int a2, .int a3, .int a4, .int a5, mU] ⟨Or.inr rfl, Or.inl rfl, Or.inr rfl, Or.inr rfl, Or.inr rfl, Or.inr rfl, Or.inl rfl, trivial⟩ ?_
      exact hk55 a5
    · refine mS_steps (pc' := 35) (ls' := [.ref 223, mU, .int a2, .int a3, .int a4, .int a5, .int a6]) (st' := [.int ((a3 >>> (a6 &&& 31)) &&& (1 : Int32))]) (mem' := (mk x y)) 5 rfl ?_
      refine mS_if0 rfl (fun _ => ?_) (fun _ => ?_)
      · refine mS_steps (pc' := 22) (ls' := [.ref 223, mU, .int a2, .int a3, .int a4, .int a5, .int (a6 + (1 : Int32))]) (st' := []) (mem' := (mk x y)) 2 rfl ?_
        exact ih a5 (a6 + (1 : Int32))
      · refine mS_steps (pc' := 43) (ls' := [.ref 223, mU, .int a2, .int a3, .int a4, .int a5, .int a6]) (st' := [.int a6, .ref 223, .int a5]) (mem' := (mk x y)) 3 rfl ?_
        refine mS_ald (b := 0) (n := 8) (z := (x.1 223 a6.toNatClampNeg)) rfl (by decide) rfl (by decide) rfl (fun _ => ?_)
        refine mS_steps (pc' := 22) (ls' := [.ref 223, mU, .int a2, .int a3, .int a4, .int (a5 ||| ((x.1 223 a6.toNatClampNeg) &&& a2)), .int (a6 + (1 : Int32))]) (st' := []) (mem' := (mk x y)) 6 rfl ?_
        exact ih (a5 ||| ((x.1 223 a6.toNatClampNeg) &&& a2)) (a6 + (1 : Int32))
set_option maxRecDepth 20000 in
set_option maxHeartbeats 2000000 in
theorem f_X10_reach_L9_223_snd {fm : Value} {L : Nat} {xs : Nat → Int32} (a2 : Int32) (x : mX) (y : mY) : ∀ (n : Nat) (a3 : Int32) (a4 : Int32), mS fm L xs (fun r : Int32 => (.int r, (mk x y))) pg_X10_reach 9 [.ref 223, mU, .int a2, .int a3, .int a4, mU, mU] [] (mk x y) (f_X10_reach_L9 223 a2 n a3 a4 x) := by
  intro n
  induction n with
  | zero => intro a3 a4; exact mS_none
  | succ n ih =>
    intro a3 a4
    rw [f_X10_reach_L9]
    refine mS_steps (pc' := 13) (ls' := [.ref 223, mU, .int a2, .int a3, .int a4, mU, mU]) (st' := [.int (8 : Int32), .int a4]) (mem' := (mk x y)) 2 rfl ?_
    refine mS_ic3 rfl (fun _ => ?_) (fun _ => ?_)
    · refine mS_steps (pc' := 74) (ls' := [.ref 223, mU, .int a2, .int a3, .int a4, mU, mU]) (st' := [.int a3]) (mem' := (mk x y)) 1 rfl ?_
      exact mS_reti ⟨_, _, _, _, _, rfl, rfl⟩ rfl
    · refine mS_steps (pc' := 22) (ls' := [.ref 223, mU, .int a2, .int a3, .int a4, .int a3, .int (0 : Int32)]) (st' := []) (mem' := (mk x y)) 4 rfl ?_
      refine f_X10_reach_L22_223_snd a2 a3 a4 x y _ ?_ mF a3 (0 : Int32)
      · intro v1
        refine mS_steps (pc' := 58) (ls' := [.ref 223, mU, .int a2, .int a3, .int a4, .int v1, mU]) (st' := [.int a3, .int v1]) (mem' := (mk x y)) 2 rfl ?_
        refine mS_ic1 rfl (fun _ => ?_) (fun _ => ?_)
        · refine mS_steps (pc' := 74) (ls' := [.ref 223, mU, .int a2, .int a3, .int a4, .int v1, mU]) (st' := [.int a3]) (mem' := (mk x y)) 2 rfl ?_
          exact mS_reti ⟨_, _, _, _, _, rfl, rfl⟩ rfl
        · refine mS_steps (pc' := 9) (ls' := [.ref 223, mU, .int a2, .int v1, .int (a4 + (1 : Int32)), .int v1, mU]) (st' := []) (mem' := (mk x y)) 4 rfl ?_
          refine mS_forget [.ref 223, mU, .int a2, .int v1, .int (a4 + (1 : Int32)), mU, mU] ⟨Or.inr rfl, Or.inl rfl, Or.inr rfl, Or.inr rfl, Or.inr rfl, Or.inl rfl, Or.inl rfl, trivial⟩ ?_
          exact ih v1 (a4 + (1 : Int32))
set_option maxRecDepth 20000 in
set_option maxHeartbeats 2000000 in
theorem f_X10_reach_223_snd {fm : Value} {L : Nat} {xs : Nat → Int32} (p1 : Int32) (p2 : Int32) (x : mX) (y : mY) : mS fm L xs (fun r : Int32 => (.int r, (mk x y))) pg_X10_reach 0 (m_entry [.ref 223, .int p1, .int p2] 7) [] (mk x y) ((f_X10_reach 223 p1 p2 x)) := by
  unfold f_X10_reach
  refine mS_steps (pc' := 0) (ls' := [.ref 223, .int p1, .int p2, mU, mU, mU, mU]) (st' := []) (mem' := (mk x y)) 0 rfl ?_
  refine mS_steps (pc' := 9) (ls' := [.ref 223, .int p1, .int p2, .int (((1 : Int32) <<< (p1 &&& 31)) &&& p2), .int (0 : Int32), mU, mU]) (st' := []) (mem' := (mk x y)) 8 rfl ?_
  refine mS_forget [.ref 223, mU, .int p2, .int (((1 : Int32) <<< (p1 &&& 31)) &&& p2), .int (0 : Int32), mU, mU] ⟨Or.inr rfl, Or.inl rfl, Or.inr rfl, Or.inr rfl, Or.inr rfl, Or.inl rfl, Or.inl rfl, trivial⟩ ?_
  refine f_X10_reach_L9_223_snd p2 x y mF (((1 : Int32) <<< (p1 &&& 31)) &&& p2) (0 : Int32)
set_option maxRecDepth 20000 in
set_option maxHeartbeats 2000000 in
theorem f_X10_reach_L22_259_snd {fm : Value} {L : Nat} {xs : Nat → Int32} (a2 : Int32) (a3 : Int32) (a4 : Int32) (x : mX) (y : mY) (k55 : Int32 → Option Int32) (hk55 : ∀ (b5 : Int32), mS fm L xs (fun r : Int32 => (.int r, (mk x y))) pg_X10_reach 55 [.ref 259, mU, .int a2, .int a3, .int a4, .int b5, mU] [] (mk x y) (k55 b5)) : ∀ (n : Nat) (a5 : Int32) (a6 : Int32), mS fm L xs (fun r : Int32 => (.int r, (mk x y))) pg_X10_reach 22 [.ref 259, mU, .int a2, .int a3, .int a4, .int a5, .int a6] [] (mk x y) (f_X10_reach_L22 259 a2 a3 n a5 a6 x k55) := by
  intro n
  induction n with
  | zero => intro a5 a6; exact mS_none
  | succ n ih =>
    intro a5 a6
    rw [f_X10_reach_L22]
    refine mS_steps (pc' := 26) (ls' := [.ref 259, mU, .int a2, .int a3, .int a4, .int a5, .int a6]) (st' := [.int (8 : Int32), .int a6]) (mem' := (mk x y)) 2 rfl ?_
    refine mS_ic3 rfl (fun _ => ?_) (fun _ => ?_)
    · refine mS_forget [.ref 259, mU, .int a2, .int a3, .int a4, .int a5, mU] ⟨Or.inr rfl, Or.inl rfl, Or.inr rfl, Or.inr rfl, Or.inr rfl, Or.inr rfl, Or.inl rfl, trivial⟩ ?_
      exact hk55 a5
    · refine mS_steps (pc' := 35) (ls' := [.ref 259, mU, .int a2, .int a3, .int a4, .int a5, .int a6]) (st' := [.int ((a3 >>> (a6 &&& 31)) &&& (1 : Int32))]) (mem' := (mk x y)) 5 rfl ?_
      refine mS_if0 rfl (fun _ => ?_) (fun _ => ?_)
      · refine mS_steps (pc' := 22) (ls' := [.ref 259, mU, .int a2, .int a3, .int a4, .int a5, .int (a6 + (1 : Int32))]) (st' := []) (mem' := (mk x y)) 2 rfl ?_
        exact ih a5 (a6 + (1 : Int32))
      · refine mS_steps (pc' := 43) (ls' := [.ref 259, mU, .int a2, .int a3, .int a4, .int a5, .int a6]) (st' := [.int a6, .ref 259, .int a5]) (mem' := (mk x y)) 3 rfl ?_
        refine mS_ald (b := 0) (n := 8) (z := (x.1 259 a6.toNatClampNeg)) rfl (by decide) rfl (by decide) rfl (fun _ => ?_)
        refine mS_steps (pc' := 22) (ls' := [.ref 259, mU, .int a2, .int a3, .int a4, .int (a5 ||| ((x.1 259 a6.toNatClampNeg) &&& a2)), .int (a6 + (1 : Int32))]) (st' := []) (mem' := (mk x y)) 6 rfl ?_
        exact ih (a5 ||| ((x.1 259 a6.toNatClampNeg) &&& a2)) (a6 + (1 : Int32))
set_option maxRecDepth 20000 in
set_option maxHeartbeats 2000000 in
theorem f_X10_reach_L9_259_snd {fm : Value} {L : Nat} {xs : Nat → Int32} (a2 : Int32) (x : mX) (y : mY) : ∀ (n : Nat) (a3 : Int32) (a4 : Int32), mS fm L xs (fun r : Int32 => (.int r, (mk x y))) pg_X10_reach 9 [.ref 259, mU, .int a2, .int a3, .int a4, mU, mU] [] (mk x y) (f_X10_reach_L9 259 a2 n a3 a4 x) := by
  intro n
  induction n with
  | zero => intro a3 a4; exact mS_none
  | succ n ih =>
    intro a3 a4
    rw [f_X10_reach_L9]
    refine mS_steps (pc' := 13) (ls' := [.ref 259, mU, .int a2, .int a3, .int a4, mU, mU]) (st' := [.int (8 : Int32), .int a4]) (mem' := (mk x y)) 2 rfl ?_
    refine mS_ic3 rfl (fun _ => ?_) (fun _ => ?_)
    · refine mS_steps (pc' := 74) (ls' := [.ref 259, mU, .int a2, .int a3, .int a4, mU, mU]) (st' := [.int a3]) (mem' := (mk x y)) 1 rfl ?_
      exact mS_reti ⟨_, _, _, _, _, rfl, rfl⟩ rfl
    · refine mS_steps (pc' := 22) (ls' := [.ref 259, mU, .int a2, .int a3, .int a4, .int a3, .int (0 : Int32)]) (st' := []) (mem' := (mk x y)) 4 rfl ?_
      refine f_X10_reach_L22_259_snd a2 a3 a4 x y _ ?_ mF a3 (0 : Int32)
      · intro v1
        refine mS_steps (pc' := 58) (ls' := [.ref 259, mU, .int a2, .int a3, .int a4, .int v1, mU]) (st' := [.int a3, .int v1]) (mem' := (mk x y)) 2 rfl ?_
        refine mS_ic1 rfl (fun _ => ?_) (fun _ => ?_)
        · refine mS_steps (pc' := 74) (ls' := [.ref 259, mU, .int a2, .int a3, .int a4, .int v1, mU]) (st' := [.int a3]) (mem' := (mk x y)) 2 rfl ?_
          exact mS_reti ⟨_, _, _, _, _, rfl, rfl⟩ rfl
        · refine mS_steps (pc' := 9) (ls' := [.ref 259, mU, .int a2, .int v1, .int (a4 + (1 : Int32)), .int v1, mU]) (st' := []) (mem' := (mk x y)) 4 rfl ?_
          refine mS_forget [.ref 259, mU, .int a2, .int v1, .int (a4 + (1 : Int32)), mU, mU] ⟨Or.inr rfl, Or.inl rfl, Or.inr rfl, Or.inr rfl, Or.inr rfl, Or.inl rfl, Or.inl rfl, trivial⟩ ?_
          exact ih v1 (a4 + (1 : Int32))
set_option maxRecDepth 20000 in
set_option maxHeartbeats 2000000 in
theorem f_X10_reach_259_snd {fm : Value} {L : Nat} {xs : Nat → Int32} (p1 : Int32) (p2 : Int32) (x : mX) (y : mY) : mS fm L xs (fun r : Int32 => (.int r, (mk x y))) pg_X10_reach 0 (m_entry [.ref 259, .int p1, .int p2] 7) [] (mk x y) ((f_X10_reach 259 p1 p2 x)) := by
  unfold f_X10_reach
  refine mS_steps (pc' := 0) (ls' := [.ref 259, .int p1, .int p2, mU, mU, mU, mU]) (st' := []) (mem' := (mk x y)) 0 rfl ?_
  refine mS_steps (pc' := 9) (ls' := [.ref 259, .int p1, .int p2, .int (((1 : Int32) <<< (p1 &&& 31)) &&& p2), .int (0 : Int32), mU, mU]) (st' := []) (mem' := (mk x y)) 8 rfl ?_
  refine mS_forget [.ref 259, mU, .int p2, .int (((1 : Int32) <<< (p1 &&& 31)) &&& p2), .int (0 : Int32), mU, mU] ⟨Or.inr rfl, Or.inl rfl, Or.inr rfl, Or.inr rfl, Or.inr rfl, Or.inl rfl, Or.inl rfl, trivial⟩ ?_
  refine f_X10_reach_L9_259_snd p2 x y mF (((1 : Int32) <<< (p1 &&& 31)) &&& p2) (0 : Int32)
def f_X10_parts_L3 (r0 : Nat) (r1 : Nat) (a3 : Int32) : Nat → Int32 → mX → (mX → Option mX) → Option mX
  | 0, _, _, _ => none
  | n + 1, a4, x, k23 => (if (8 : Int32) ≤ a4 then (k23 x) else (if m_in (a3 + a4) (mLen r1) = true then (m_let (m_xs x r1 (a3 + a4).toNatClampNeg (0 : Int32)) fun x1 => (f_X10_parts_L3 r0 r1 a3 n (a4 + (1 : Int32)) x1 k23)) else none))
def f_X10_parts_L63 (r0 : Nat) (r1 : Nat) (a3 : Int32) (a5 : Int32) : Nat → Int32 → mX → (mX → Option mX) → Option mX
  | 0, _, _, _ => none
  | n + 1, a6, x, k94 => (if (8 : Int32) ≤ a6 then (k94 x) else (if (f_X10_has a5 a6) = 0 then (f_X10_parts_L63 r0 r1 a3 a5 n (a6 + (1 : Int32)) x k94) else (if m_in (a3 + a6) (mLen r1) = true then (m_let (m_xs x r1 (a3 + a6).toNatClampNeg a5) fun x4 => (f_X10_parts_L63 r0 r1 a3 a5 n (a6 + (1 : Int32)) x4 k94)) else none)))
def f_X10_parts_L26 (r0 : Nat) (r1 : Nat) (a1 : Int32) (a3 : Int32) : Nat → Int32 → mX → Option mX
  | 0, _, _ => none
  | n + 1, a4, x => (if (8 : Int32) ≤ a4 then (some x) else (if (f_X10_has a1 a4) = 0 then (f_X10_parts_L26 r0 r1 a1 a3 n (a4 + (1 : Int32)) x) else (if m_in (a3 + a4) (mLen r1) = true then (if (x.1 r1 (a3 + a4).toNatClampNeg) = 0 then ((f_X10_reach r0 a4 a1 x).bind fun q3 => (f_X10_parts_L63 r0 r1 a3 q3 mF (0 : Int32) x (fun x5 => (f_X10_parts_L26 r0 r1 a1 a3 n (a4 + (1 : Int32)) x5)))) else (f_X10_parts_L26 r0 r1 a1 a3 n (a4 + (1 : Int32)) x)) else none)))
def f_X10_parts (r0 : Nat) (p1 : Int32) (r1 : Nat) (p3 : Int32) (x : mX) : Option mX := (f_X10_parts_L3 r0 r1 p3 mF (0 : Int32) x (fun x2 => (f_X10_parts_L26 r0 r1 p1 p3 mF (0 : Int32) x2)))
set_option maxRecDepth 20000 in
set_option maxHeartbeats 2000000 in
theorem f_X10_parts_L3_229_230_snd {fm : Value} {L : Nat} {xs : Nat → Int32} (a1 : Int32) (a3 : Int32) (y : mY) (k23 : mX → Option mX) (hk23 : ∀ (z0 : mX), mS fm L xs (fun r : mX => (mU, mk r y)) pg_X10_parts 23 [.ref 229, .int a1, .ref 230, .int a3, mU, mU, mU] [] (mk z0 y) (k23 z0)) : ∀ (n : Nat) (a4 : Int32) (x : mX), mS fm L xs (fun r : mX => (mU, mk r y)) pg_X10_parts 3 [.ref 229, .int a1, .ref 230, .int a3, .int a4, mU, mU] [] (mk x y) (f_X10_parts_L3 229 230 a3 n a4 x k23) := by
  intro n
  induction n with
  | zero => intro a4 x; exact mS_none
  | succ n ih =>
    intro a4 x
    rw [f_X10_parts_L3]
    refine mS_steps (pc' := 7) (ls' := [.ref 229, .int a1, .ref 230, .int a3, .int a4, mU, mU]) (st' := [.int (8 : Int32), .int a4]) (mem' := (mk x y)) 2 rfl ?_
    refine mS_ic3 rfl (fun _ => ?_) (fun _ => ?_)
    · refine mS_forget [.ref 229, .int a1, .ref 230, .int a3, mU, mU, mU] ⟨Or.inr rfl, Or.inr rfl, Or.inr rfl, Or.inr rfl, Or.inl rfl, Or.inl rfl, Or.inl rfl, trivial⟩ ?_
      exact hk23 x
    · refine mS_steps (pc' := 16) (ls' := [.ref 229, .int a1, .ref 230, .int a3, .int a4, mU, mU]) (st' := [.int (0 : Int32), .int (a3 + a4), .ref 230]) (mem' := (mk x y)) 5 rfl ?_
      refine mS_ast0x (n := 8) rfl rfl (by decide) (fun _ => ?_)
      refine mS_letx (fun x1 => ?_)
      refine mS_steps (pc' := 3) (ls' := [.ref 229, .int a1, .ref 230, .int a3, .int (a4 + (1 : Int32)), mU, mU]) (st' := []) (mem' := (mk x1 y)) 2 rfl ?_
      exact ih (a4 + (1 : Int32)) x1
set_option maxRecDepth 20000 in
set_option maxHeartbeats 2000000 in
theorem f_X10_parts_L63_229_230_snd {fm : Value} {L : Nat} {xs : Nat → Int32} (a1 : Int32) (a3 : Int32) (a4 : Int32) (a5 : Int32) (y : mY) (k94 : mX → Option mX) (hk94 : ∀ (z0 : mX), mS fm L xs (fun r : mX => (mU, mk r y)) pg_X10_parts 94 [.ref 229, .int a1, .ref 230, .int a3, .int a4, mU, mU] [] (mk z0 y) (k94 z0)) : ∀ (n : Nat) (a6 : Int32) (x : mX), mS fm L xs (fun r : mX => (mU, mk r y)) pg_X10_parts 63 [.ref 229, .int a1, .ref 230, .int a3, .int a4, .int a5, .int a6] [] (mk x y) (f_X10_parts_L63 229 230 a3 a5 n a6 x k94) := by
  intro n
  induction n with
  | zero => intro a6 x; exact mS_none
  | succ n ih =>
    intro a6 x
    rw [f_X10_parts_L63]
    refine mS_steps (pc' := 67) (ls' := [.ref 229, .int a1, .ref 230, .int a3, .int a4, .int a5, .int a6]) (st' := [.int (8 : Int32), .int a6]) (mem' := (mk x y)) 2 rfl ?_
    refine mS_ic3 rfl (fun _ => ?_) (fun _ => ?_)
    · refine mS_forget [.ref 229, .int a1, .ref 230, .int a3, .int a4, mU, mU] ⟨Or.inr rfl, Or.inr rfl, Or.inr rfl, Or.inr rfl, Or.inr rfl, Or.inl rfl, Or.inl rfl, trivial⟩ ?_
      exact hk94 x
    · refine mS_steps (pc' := 74) (ls' := [.ref 229, .int a1, .ref 230, .int a3, .int a4, .int a5, .int a6]) (st' := [.int a6, .int a5]) (mem' := (mk x y)) 2 rfl ?_
      refine mS_call (q := (f_X10_has a5 a6)) 57 2 [.int a5, .int a6] [] rfl rfl rfl ⟨_, _, _, rfl, rfl⟩ (Nat.le_of_ble_eq_true rfl) (Nat.le_of_ble_eq_true rfl) rfl (f_X10_has_snd a5 a6 (mk x y)) ?_
      refine mS_steps (pc' := 77) (ls' := [.ref 229, .int a1, .ref 230, .int a3, .int a4, .int a5, .int a6]) (st' := [.int (f_X10_has a5 a6)]) (mem' := (mk x y)) 0 rfl ?_
      refine mS_if0 rfl (fun _ => ?_) (fun _ => ?_)
      · refine mS_steps (pc' := 63) (ls' := [.ref 229, .int a1, .ref 230, .int a3, .int a4, .int a5, .int (a6 + (1 : Int32))]) (st' := []) (mem' := (mk x y)) 2 rfl ?_
        exact ih (a6 + (1 : Int32)) x
      · refine mS_steps (pc' := 87) (ls' := [.ref 229, .int a1, .ref 230, .int a3, .int a4, .int a5, .int a6]) (st' := [.int a5, .int (a3 + a6), .ref 230]) (mem' := (mk x y)) 5 rfl ?_
        refine mS_ast0x (n := 8) rfl rfl (by decide) (fun _ => ?_)
        refine mS_letx (fun x4 => ?_)
        refine mS_steps (pc' := 63) (ls' := [.ref 229, .int a1, .ref 230, .int a3, .int a4, .int a5, .int (a6 + (1 : Int32))]) (st' := []) (mem' := (mk x4 y)) 2 rfl ?_
        exact ih (a6 + (1 : Int32)) x4
set_option maxRecDepth 20000 in
set_option maxHeartbeats 2000000 in
theorem f_X10_parts_L26_229_230_snd {fm : Value} {L : Nat} {xs : Nat → Int32} (a1 : Int32) (a3 : Int32) (y : mY) : ∀ (n : Nat) (a4 : Int32) (x : mX), mS fm L xs (fun r : mX => (mU, mk r y)) pg_X10_parts 26 [.ref 229, .int a1, .ref 230, .int a3, .int a4, mU, mU] [] (mk x y) (f_X10_parts_L26 229 230 a1 a3 n a4 x) := by
  intro n
  induction n with
  | zero => intro a4 x; exact mS_none
  | succ n ih =>
    intro a4 x
    rw [f_X10_parts_L26]
    refine mS_steps (pc' := 30) (ls' := [.ref 229, .int a1, .ref 230, .int a3, .int a4, mU, mU]) (st' := [.int (8 : Int32), .int a4]) (mem' := (mk x y)) 2 rfl ?_
    refine mS_ic3 rfl (fun _ => ?_) (fun _ => ?_)
    · exact mS_retv ⟨_, _, _, _, _, rfl⟩ rfl
    · refine mS_steps (pc' := 36) (ls' := [.ref 229, .int a1, .ref 230, .int a3, .int a4, mU, mU]) (st' := [.int a4, .int a1]) (mem' := (mk x y)) 2 rfl ?_
      refine mS_call (q := (f_X10_has a1 a4)) 57 2 [.int a1, .int a4] [] rfl rfl rfl ⟨_, _, _, rfl, rfl⟩ (Nat.le_of_ble_eq_true rfl) (Nat.le_of_ble_eq_true rfl) rfl (f_X10_has_snd a1 a4 (mk x y)) ?_
      refine mS_steps (pc' := 39) (ls' := [.ref 229, .int a1, .ref 230, .int a3, .int a4, mU, mU]) (st' := [.int (f_X10_has a1 a4)]) (mem' := (mk x y)) 0 rfl ?_
      refine mS_if0 rfl (fun _ => ?_) (fun _ => ?_)
      · refine mS_steps (pc' := 26) (ls' := [.ref 229, .int a1, .ref 230, .int a3, .int (a4 + (1 : Int32)), mU, mU]) (st' := []) (mem' := (mk x y)) 2 rfl ?_
        exact ih (a4 + (1 : Int32)) x
      · refine mS_steps (pc' := 47) (ls' := [.ref 229, .int a1, .ref 230, .int a3, .int a4, mU, mU]) (st' := [.int (a3 + a4), .ref 230]) (mem' := (mk x y)) 4 rfl ?_
        refine mS_ald (b := 0) (n := 8) (z := (x.1 230 (a3 + a4).toNatClampNeg)) rfl (by decide) rfl (by decide) rfl (fun _ => ?_)
        refine mS_if1 rfl (fun _ => ?_) (fun _ => ?_)
        · refine mS_steps (pc' := 55) (ls' := [.ref 229, .int a1, .ref 230, .int a3, .int a4, mU, mU]) (st' := [.int a1, .int a4, .ref 229]) (mem' := (mk x y)) 3 rfl ?_
          refine mS_bind (fun q3 hq3 => mS_call 112 3 [.ref 229, .int a4, .int a1] [] rfl rfl rfl ⟨_, _, _, rfl, rfl⟩ (Nat.le_of_ble_eq_true rfl) (Nat.le_of_ble_eq_true rfl) hq3 (f_X10_reach_229_snd a4 a1 x y) ?_)
          refine mS_steps (pc' := 63) (ls' := [.ref 229, .int a1, .ref 230, .int a3, .int a4, .int q3, .int (0 : Int32)]) (st' := []) (mem' := (mk x y)) 3 rfl ?_
          refine f_X10_parts_L63_229_230_snd a1 a3 a4 q3 y _ ?_ mF (0 : Int32) x
          · intro x5
            refine mS_steps (pc' := 26) (ls' := [.ref 229, .int a1, .ref 230, .int a3, .int (a4 + (1 : Int32)), mU, mU]) (st' := []) (mem' := (mk x5 y)) 2 rfl ?_
            exact ih (a4 + (1 : Int32)) x5
        · refine mS_steps (pc' := 26) (ls' := [.ref 229, .int a1, .ref 230, .int a3, .int (a4 + (1 : Int32)), mU, mU]) (st' := []) (mem' := (mk x y)) 2 rfl ?_
          exact ih (a4 + (1 : Int32)) x
set_option maxRecDepth 20000 in
set_option maxHeartbeats 2000000 in
theorem f_X10_parts_229_230_snd {fm : Value} {L : Nat} {xs : Nat → Int32} (p1 : Int32) (p3 : Int32) (x : mX) (y : mY) : mS fm L xs (fun r : mX => (mU, mk r y)) pg_X10_parts 0 (m_entry [.ref 229, .int p1, .ref 230, .int p3] 7) [] (mk x y) ((f_X10_parts 229 p1 230 p3 x)) := by
  unfold f_X10_parts
  refine mS_steps (pc' := 0) (ls' := [.ref 229, .int p1, .ref 230, .int p3, mU, mU, mU]) (st' := []) (mem' := (mk x y)) 0 rfl ?_
  refine mS_steps (pc' := 3) (ls' := [.ref 229, .int p1, .ref 230, .int p3, .int (0 : Int32), mU, mU]) (st' := []) (mem' := (mk x y)) 2 rfl ?_
  refine f_X10_parts_L3_229_230_snd p1 p3 y _ ?_ mF (0 : Int32) x
  · intro x2
    refine mS_steps (pc' := 26) (ls' := [.ref 229, .int p1, .ref 230, .int p3, .int (0 : Int32), mU, mU]) (st' := []) (mem' := (mk x2 y)) 2 rfl ?_
    refine f_X10_parts_L26_229_230_snd p1 p3 y mF (0 : Int32) x2
set_option maxRecDepth 20000 in
set_option maxHeartbeats 2000000 in
theorem f_X10_parts_L3_229_232_snd {fm : Value} {L : Nat} {xs : Nat → Int32} (a1 : Int32) (a3 : Int32) (y : mY) (k23 : mX → Option mX) (hk23 : ∀ (z0 : mX), mS fm L xs (fun r : mX => (mU, mk r y)) pg_X10_parts 23 [.ref 229, .int a1, .ref 232, .int a3, mU, mU, mU] [] (mk z0 y) (k23 z0)) : ∀ (n : Nat) (a4 : Int32) (x : mX), mS fm L xs (fun r : mX => (mU, mk r y)) pg_X10_parts 3 [.ref 229, .int a1, .ref 232, .int a3, .int a4, mU, mU] [] (mk x y) (f_X10_parts_L3 229 232 a3 n a4 x k23) := by
  intro n
  induction n with
  | zero => intro a4 x; exact mS_none
  | succ n ih =>
    intro a4 x
    rw [f_X10_parts_L3]
    refine mS_steps (pc' := 7) (ls' := [.ref 229, .int a1, .ref 232, .int a3, .int a4, mU, mU]) (st' := [.int (8 : Int32), .int a4]) (mem' := (mk x y)) 2 rfl ?_
    refine mS_ic3 rfl (fun _ => ?_) (fun _ => ?_)
    · refine mS_forget [.ref 229, .int a1, .ref 232, .int a3, mU, mU, mU] ⟨Or.inr rfl, Or.inr rfl, Or.inr rfl, Or.inr rfl, Or.inl rfl, Or.inl rfl, Or.inl rfl, trivial⟩ ?_
      exact hk23 x
    · refine mS_steps (pc' := 16) (ls' := [.ref 229, .int a1, .ref 232, .int a3, .int a4, mU, mU]) (st' := [.int (0 : Int32), .int (a3 + a4), .ref 232]) (mem' := (mk x y)) 5 rfl ?_
      refine mS_ast0x (n := 64) rfl rfl (by decide) (fun _ => ?_)
      refine mS_letx (fun x1 => ?_)
      refine mS_steps (pc' := 3) (ls' := [.ref 229, .int a1, .ref 232, .int a3, .int (a4 + (1 : Int32)), mU, mU]) (st' := []) (mem' := (mk x1 y)) 2 rfl ?_
      exact ih (a4 + (1 : Int32)) x1
set_option maxRecDepth 20000 in
set_option maxHeartbeats 2000000 in
theorem f_X10_parts_L63_229_232_snd {fm : Value} {L : Nat} {xs : Nat → Int32} (a1 : Int32) (a3 : Int32) (a4 : Int32) (a5 : Int32) (y : mY) (k94 : mX → Option mX) (hk94 : ∀ (z0 : mX), mS fm L xs (fun r : mX => (mU, mk r y)) pg_X10_parts 94 [.ref 229, .int a1, .ref 232, .int a3, .int a4, mU, mU] [] (mk z0 y) (k94 z0)) : ∀ (n : Nat) (a6 : Int32) (x : mX), mS fm L xs (fun r : mX => (mU, mk r y)) pg_X10_parts 63 [.ref 229, .int a1, .ref 232, .int a3, .int a4, .int a5, .int a6] [] (mk x y) (f_X10_parts_L63 229 232 a3 a5 n a6 x k94) := by
  intro n
  induction n with
  | zero => intro a6 x; exact mS_none
  | succ n ih =>
    intro a6 x
    rw [f_X10_parts_L63]
    refine mS_steps (pc' := 67) (ls' := [.ref 229, .int a1, .ref 232, .int a3, .int a4, .int a5, .int a6]) (st' := [.int (8 : Int32), .int a6]) (mem' := (mk x y)) 2 rfl ?_
    refine mS_ic3 rfl (fun _ => ?_) (fun _ => ?_)
    · refine mS_forget [.ref 229, .int a1, .ref 232, .int a3, .int a4, mU, mU] ⟨Or.inr rfl, Or.inr rfl, Or.inr rfl, Or.inr rfl, Or.inr rfl, Or.inl rfl, Or.inl rfl, trivial⟩ ?_
      exact hk94 x
    · refine mS_steps (pc' := 74) (ls' := [.ref 229, .int a1, .ref 232, .int a3, .int a4, .int a5, .int a6]) (st' := [.int a6, .int a5]) (mem' := (mk x y)) 2 rfl ?_
      refine mS_call (q := (f_X10_has a5 a6)) 57 2 [.int a5, .int a6] [] rfl rfl rfl ⟨_, _, _, rfl, rfl⟩ (Nat.le_of_ble_eq_true rfl) (Nat.le_of_ble_eq_true rfl) rfl (f_X10_has_snd a5 a6 (mk x y)) ?_
      refine mS_steps (pc' := 77) (ls' := [.ref 229, .int a1, .ref 232, .int a3, .int a4, .int a5, .int a6]) (st' := [.int (f_X10_has a5 a6)]) (mem' := (mk x y)) 0 rfl ?_
      refine mS_if0 rfl (fun _ => ?_) (fun _ => ?_)
      · refine mS_steps (pc' := 63) (ls' := [.ref 229, .int a1, .ref 232, .int a3, .int a4, .int a5, .int (a6 + (1 : Int32))]) (st' := []) (mem' := (mk x y)) 2 rfl ?_
        exact ih (a6 + (1 : Int32)) x
      · refine mS_steps (pc' := 87) (ls' := [.ref 229, .int a1, .ref 232, .int a3, .int a4, .int a5, .int a6]) (st' := [.int a5, .int (a3 + a6), .ref 232]) (mem' := (mk x y)) 5 rfl ?_
        refine mS_ast0x (n := 64) rfl rfl (by decide) (fun _ => ?_)
        refine mS_letx (fun x4 => ?_)
        refine mS_steps (pc' := 63) (ls' := [.ref 229, .int a1, .ref 232, .int a3, .int a4, .int a5, .int (a6 + (1 : Int32))]) (st' := []) (mem' := (mk x4 y)) 2 rfl ?_
        exact ih (a6 + (1 : Int32)) x4
set_option maxRecDepth 20000 in
set_option maxHeartbeats 2000000 in
theorem f_X10_parts_L26_229_232_snd {fm : Value} {L : Nat} {xs : Nat → Int32} (a1 : Int32) (a3 : Int32) (y : mY) : ∀ (n : Nat) (a4 : Int32) (x : mX), mS fm L xs (fun r : mX => (mU, mk r y)) pg_X10_parts 26 [.ref 229, .int a1, .ref 232, .int a3, .int a4, mU, mU] [] (mk x y) (f_X10_parts_L26 229 232 a1 a3 n a4 x) := by
  intro n
  induction n with
  | zero => intro a4 x; exact mS_none
  | succ n ih =>
    intro a4 x
    rw [f_X10_parts_L26]
    refine mS_steps (pc' := 30) (ls' := [.ref 229, .int a1, .ref 232, .int a3, .int a4, mU, mU]) (st' := [.int (8 : Int32), .int a4]) (mem' := (mk x y)) 2 rfl ?_
    refine mS_ic3 rfl (fun _ => ?_) (fun _ => ?_)
    · exact mS_retv ⟨_, _, _, _, _, rfl⟩ rfl
    · refine mS_steps (pc' := 36) (ls' := [.ref 229, .int a1, .ref 232, .int a3, .int a4, mU, mU]) (st' := [.int a4, .int a1]) (mem' := (mk x y)) 2 rfl ?_
      refine mS_call (q := (f_X10_has a1 a4)) 57 2 [.int a1, .int a4] [] rfl rfl rfl ⟨_, _, _, rfl, rfl⟩ (Nat.le_of_ble_eq_true rfl) (Nat.le_of_ble_eq_true rfl) rfl (f_X10_has_snd a1 a4 (mk x y)) ?_
      refine mS_steps (pc' := 39) (ls' := [.ref 229, .int a1, .ref 232, .int a3, .int a4, mU, mU]) (st' := [.int (f_X10_has a1 a4)]) (mem' := (mk x y)) 0 rfl ?_
      refine mS_if0 rfl (fun _ => ?_) (fun _ => ?_)
      · refine mS_steps (pc' := 26) (ls' := [.ref 229, .int a1, .ref 232, .int a3, .int (a4 + (1 : Int32)), mU, mU]) (st' := []) (mem' := (mk x y)) 2 rfl ?_
        exact ih (a4 + (1 : Int32)) x
      · refine mS_steps (pc' := 47) (ls' := [.ref 229, .int a1, .ref 232, .int a3, .int a4, mU, mU]) (st' := [.int (a3 + a4), .ref 232]) (mem' := (mk x y)) 4 rfl ?_
        refine mS_ald (b := 0) (n := 64) (z := (x.1 232 (a3 + a4).toNatClampNeg)) rfl (by decide) rfl (by decide) rfl (fun _ => ?_)
        refine mS_if1 rfl (fun _ => ?_) (fun _ => ?_)
        · refine mS_steps (pc' := 55) (ls' := [.ref 229, .int a1, .ref 232, .int a3, .int a4, mU, mU]) (st' := [.int a1, .int a4, .ref 229]) (mem' := (mk x y)) 3 rfl ?_
          refine mS_bind (fun q3 hq3 => mS_call 112 3 [.ref 229, .int a4, .int a1] [] rfl rfl rfl ⟨_, _, _, rfl, rfl⟩ (Nat.le_of_ble_eq_true rfl) (Nat.le_of_ble_eq_true rfl) hq3 (f_X10_reach_229_snd a4 a1 x y) ?_)
          refine mS_steps (pc' := 63) (ls' := [.ref 229, .int a1, .ref 232, .int a3, .int a4, .int q3, .int (0 : Int32)]) (st' := []) (mem' := (mk x y)) 3 rfl ?_
          refine f_X10_parts_L63_229_232_snd a1 a3 a4 q3 y _ ?_ mF (0 : Int32) x
          · intro x5
            refine mS_steps (pc' := 26) (ls' := [.ref 229, .int a1, .ref 232, .int a3, .int (a4 + (1 : Int32)), mU, mU]) (st' := []) (mem' := (mk x5 y)) 2 rfl ?_
            exact ih (a4 + (1 : Int32)) x5
        · refine mS_steps (pc' := 26) (ls' := [.ref 229, .int a1, .ref 232, .int a3, .int (a4 + (1 : Int32)), mU, mU]) (st' := []) (mem' := (mk x y)) 2 rfl ?_
          exact ih (a4 + (1 : Int32)) x
set_option maxRecDepth 20000 in
set_option maxHeartbeats 2000000 in
theorem f_X10_parts_229_232_snd {fm : Value} {L : Nat} {xs : Nat → Int32} (p1 : Int32) (p3 : Int32) (x : mX) (y : mY) : mS fm L xs (fun r : mX => (mU, mk r y)) pg_X10_parts 0 (m_entry [.ref 229, .int p1, .ref 232, .int p3] 7) [] (mk x y) ((f_X10_parts 229 p1 232 p3 x)) := by
  unfold f_X10_parts
  refine mS_steps (pc' := 0) (ls' := [.ref 229, .int p1, .ref 232, .int p3, mU, mU, mU]) (st' := []) (mem' := (mk x y)) 0 rfl ?_
  refine mS_steps (pc' := 3) (ls' := [.ref 229, .int p1, .ref 232, .int p3, .int (0 : Int32), mU, mU]) (st' := []) (mem' := (mk x y)) 2 rfl ?_
  refine f_X10_parts_L3_229_232_snd p1 p3 y _ ?_ mF (0 : Int32) x
  · intro x2
    refine mS_steps (pc' := 26) (ls' := [.ref 229, .int p1, .ref 232, .int p3, .int (0 : Int32), mU, mU]) (st' := []) (mem' := (mk x2 y)) 2 rfl ?_
    refine f_X10_parts_L26_229_232_snd p1 p3 y mF (0 : Int32) x2
set_option maxRecDepth 20000 in
set_option maxHeartbeats 2000000 in
theorem f_X10_parts_L3_223_224_snd {fm : Value} {L : Nat} {xs : Nat → Int32} (a1 : Int32) (a3 : Int32) (y : mY) (k23 : mX → Option mX) (hk23 : ∀ (z0 : mX), mS fm L xs (fun r : mX => (mU, mk r y)) pg_X10_parts 23 [.ref 223, .int a1, .ref 224, .int a3, mU, mU, mU] [] (mk z0 y) (k23 z0)) : ∀ (n : Nat) (a4 : Int32) (x : mX), mS fm L xs (fun r : mX => (mU, mk r y)) pg_X10_parts 3 [.ref 223, .int a1, .ref 224, .int a3, .int a4, mU, mU] [] (mk x y) (f_X10_parts_L3 223 224 a3 n a4 x k23) := by
  intro n
  induction n with
  | zero => intro a4 x; exact mS_none
  | succ n ih =>
    intro a4 x
    rw [f_X10_parts_L3]
    refine mS_steps (pc' := 7) (ls' := [.ref 223, .int a1, .ref 224, .int a3, .int a4, mU, mU]) (st' := [.int (8 : Int32), .int a4]) (mem' := (mk x y)) 2 rfl ?_
    refine mS_ic3 rfl (fun _ => ?_) (fun _ => ?_)
    · refine mS_forget [.ref 223, .int a1, .ref 224, .int a3, mU, mU, mU] ⟨Or.inr rfl, Or.inr rfl, Or.inr rfl, Or.inr rfl, Or.inl rfl, Or.inl rfl, Or.inl rfl, trivial⟩ ?_
      exact hk23 x
    · refine mS_steps (pc' := 16) (ls' := [.ref 223, .int a1, .ref 224, .int a3, .int a4, mU, mU]) (st' := [.int (0 : Int32), .int (a3 + a4), .ref 224]) (mem' := (mk x y)) 5 rfl ?_
      refine mS_ast0x (n := 8) rfl rfl (by decide) (fun _ => ?_)
      refine mS_letx (fun x1 => ?_)
      refine mS_steps (pc' := 3) (ls' := [.ref 223, .int a1, .ref 224, .int a3, .int (a4 + (1 : Int32)), mU, mU]) (st' := []) (mem' := (mk x1 y)) 2 rfl ?_
      exact ih (a4 + (1 : Int32)) x1
set_option maxRecDepth 20000 in
set_option maxHeartbeats 2000000 in
theorem f_X10_parts_L63_223_224_snd {fm : Value} {L : Nat} {xs : Nat → Int32} (a1 : Int32) (a3 : Int32) (a4 : Int32) (a5 : Int32) (y : mY) (k94 : mX → Option mX) (hk94 : ∀ (z0 : mX), mS fm L xs (fun r : mX => (mU, mk r y)) pg_X10_parts 94 [.ref 223, .int a1, .ref 224, .int a3, .int a4, mU, mU] [] (mk z0 y) (k94 z0)) : ∀ (n : Nat) (a6 : Int32) (x : mX), mS fm L xs (fun r : mX => (mU, mk r y)) pg_X10_parts 63 [.ref 223, .int a1, .ref 224, .int a3, .int a4, .int a5, .int a6] [] (mk x y) (f_X10_parts_L63 223 224 a3 a5 n a6 x k94) := by
  intro n
  induction n with
  | zero => intro a6 x; exact mS_none
  | succ n ih =>
    intro a6 x
    rw [f_X10_parts_L63]
    refine mS_steps (pc' := 67) (ls' := [.ref 223, .int a1, .ref 224, .int a3, .int a4, .int a5, .int a6]) (st' := [.int (8 : Int32), .int a6]) (mem' := (mk x y)) 2 rfl ?_
    refine mS_ic3 rfl (fun _ => ?_) (fun _ => ?_)
    · refine mS_forget [.ref 223, .int a1, .ref 224, .int a3, .int a4, mU, mU] ⟨Or.inr rfl, Or.inr rfl, Or.inr rfl, Or.inr rfl, Or.inr rfl, Or.inl rfl, Or.inl rfl, trivial⟩ ?_
      exact hk94 x
    · refine mS_steps (pc' := 74) (ls' := [.ref 223, .int a1, .ref 224, .int a3, .int a4, .int a5, .int a6]) (st' := [.int a6, .int a5]) (mem' := (mk x y)) 2 rfl ?_
      refine mS_call (q := (f_X10_has a5 a6)) 57 2 [.int a5, .int a6] [] rfl rfl rfl ⟨_, _, _, rfl, rfl⟩ (Nat.le_of_ble_eq_true rfl) (Nat.le_of_ble_eq_true rfl) rfl (f_X10_has_snd a5 a6 (mk x y)) ?_
      refine mS_steps (pc' := 77) (ls' := [.ref 223, .int a1, .ref 224, .int a3, .int a4, .int a5, .int a6]) (st' := [.int (f_X10_has a5 a6)]) (mem' := (mk x y)) 0 rfl ?_
      refine mS_if0 rfl (fun _ => ?_) (fun _ => ?_)
      · refine mS_steps (pc' := 63) (ls' := [.ref 223, .int a1, .ref 224, .int a3, .int a4, .int a5, .int (a6 + (1 : Int32))]) (st' := []) (mem' := (mk x y)) 2 rfl ?_
        exact ih (a6 + (1 : Int32)) x
      · refine mS_steps (pc' := 87) (ls' := [.ref 223, .int a1, .ref 224, .int a3, .int a4, .int a5, .int a6]) (st' := [.int a5, .int (a3 + a6), .ref 224]) (mem' := (mk x y)) 5 rfl ?_
        refine mS_ast0x (n := 8) rfl rfl (by decide) (fun _ => ?_)
        refine mS_letx (fun x4 => ?_)
        refine mS_steps (pc' := 63) (ls' := [.ref 223, .int a1, .ref 224, .int a3, .int a4, .int a5, .int (a6 + (1 : Int32))]) (st' := []) (mem' := (mk x4 y)) 2 rfl ?_
        exact ih (a6 + (1 : Int32)) x4
set_option maxRecDepth 20000 in
set_option maxHeartbeats 2000000 in
theorem f_X10_parts_L26_223_224_snd {fm : Value} {L : Nat} {xs : Nat → Int32} (a1 : Int32) (a3 : Int32) (y : mY) : ∀ (n : Nat) (a4 : Int32) (x : mX), mS fm L xs (fun r : mX => (mU, mk r y)) pg_X10_parts 26 [.ref 223, .int a1, .ref 224, .int a3, .int a4, mU, mU] [] (mk x y) (f_X10_parts_L26 223 224 a1 a3 n a4 x) := by
  intro n
  induction n with
  | zero => intro a4 x; exact mS_none
  | succ n ih =>
    intro a4 x
    rw [f_X10_parts_L26]
    refine mS_steps (pc' := 30) (ls' := [.ref 223, .int a1, .ref 224, .int a3, .int a4, mU, mU]) (st' := [.int (8 : Int32), .int a4]) (mem' := (mk x y)) 2 rfl ?_
    refine mS_ic3 rfl (fun _ => ?_) (fun _ => ?_)
    · exact mS_retv ⟨_, _, _, _, _, rfl⟩ rfl
    · refine mS_steps (pc' := 36) (ls' := [.ref 223, .int a1, .ref 224, .int a3, .int a4, mU, mU]) (st' := [.int a4, .int a1]) (mem' := (mk x y)) 2 rfl ?_
      refine mS_call (q := (f_X10_has a1 a4)) 57 2 [.int a1, .int a4] [] rfl rfl rfl ⟨_, _, _, rfl, rfl⟩ (Nat.le_of_ble_eq_true rfl) (Nat.le_of_ble_eq_true rfl) rfl (f_X10_has_snd a1 a4 (mk x y)) ?_
      refine mS_steps (pc' := 39) (ls' := [.ref 223, .int a1, .ref 224, .int a3, .int a4, mU, mU]) (st' := [.int (f_X10_has a1 a4)]) (mem' := (mk x y)) 0 rfl ?_
      refine mS_if0 rfl (fun _ => ?_) (fun _ => ?_)
      · refine mS_steps (pc' := 26) (ls' := [.ref 223, .int a1, .ref 224, .int a3, .int (a4 + (1 : Int32)), mU, mU]) (st' := []) (mem' := (mk x y)) 2 rfl ?_
        exact ih (a4 + (1 : Int32)) x
      · refine mS_steps (pc' := 47) (ls' := [.ref 223, .int a1, .ref 224, .int a3, .int a4, mU, mU]) (st' := [.int (a3 + a4), .ref 224]) (mem' := (mk x y)) 4 rfl ?_
        refine mS_ald (b := 0) (n := 8) (z := (x.1 224 (a3 + a4).toNatClampNeg)) rfl (by decide) rfl (by decide) rfl (fun _ => ?_)
        refine mS_if1 rfl (fun _ => ?_) (fun _ => ?_)
        · refine mS_steps (pc' := 55) (ls' := [.ref 223, .int a1, .ref 224, .int a3, .int a4, mU, mU]) (st' := [.int a1, .int a4, .ref 223]) (mem' := (mk x y)) 3 rfl ?_
          refine mS_bind (fun q3 hq3 => mS_call 112 3 [.ref 223, .int a4, .int a1] [] rfl rfl rfl ⟨_, _, _, rfl, rfl⟩ (Nat.le_of_ble_eq_true rfl) (Nat.le_of_ble_eq_true rfl) hq3 (f_X10_reach_223_snd a4 a1 x y) ?_)
          refine mS_steps (pc' := 63) (ls' := [.ref 223, .int a1, .ref 224, .int a3, .int a4, .int q3, .int (0 : Int32)]) (st' := []) (mem' := (mk x y)) 3 rfl ?_
          refine f_X10_parts_L63_223_224_snd a1 a3 a4 q3 y _ ?_ mF (0 : Int32) x
          · intro x5
            refine mS_steps (pc' := 26) (ls' := [.ref 223, .int a1, .ref 224, .int a3, .int (a4 + (1 : Int32)), mU, mU]) (st' := []) (mem' := (mk x5 y)) 2 rfl ?_
            exact ih (a4 + (1 : Int32)) x5
        · refine mS_steps (pc' := 26) (ls' := [.ref 223, .int a1, .ref 224, .int a3, .int (a4 + (1 : Int32)), mU, mU]) (st' := []) (mem' := (mk x y)) 2 rfl ?_
          exact ih (a4 + (1 : Int32)) x
set_option maxRecDepth 20000 in
set_option maxHeartbeats 2000000 in
theorem f_X10_parts_223_224_snd {fm : Value} {L : Nat} {xs : Nat → Int32} (p1 : Int32) (p3 : Int32) (x : mX) (y : mY) : mS fm L xs (fun r : mX => (mU, mk r y)) pg_X10_parts 0 (m_entry [.ref 223, .int p1, .ref 224, .int p3] 7) [] (mk x y) ((f_X10_parts 223 p1 224 p3 x)) := by
  unfold f_X10_parts
  refine mS_steps (pc' := 0) (ls' := [.ref 223, .int p1, .ref 224, .int p3, mU, mU, mU]) (st' := []) (mem' := (mk x y)) 0 rfl ?_
  refine mS_steps (pc' := 3) (ls' := [.ref 223, .int p1, .ref 224, .int p3, .int (0 : Int32), mU, mU]) (st' := []) (mem' := (mk x y)) 2 rfl ?_
  refine f_X10_parts_L3_223_224_snd p1 p3 y _ ?_ mF (0 : Int32) x
  · intro x2
    refine mS_steps (pc' := 26) (ls' := [.ref 223, .int p1, .ref 224, .int p3, .int (0 : Int32), mU, mU]) (st' := []) (mem' := (mk x2 y)) 2 rfl ?_
    refine f_X10_parts_L26_223_224_snd p1 p3 y mF (0 : Int32) x2
set_option maxRecDepth 20000 in
set_option maxHeartbeats 2000000 in
theorem f_X10_parts_L3_223_226_snd {fm : Value} {L : Nat} {xs : Nat → Int32} (a1 : Int32) (a3 : Int32) (y : mY) (k23 : mX → Option mX) (hk23 : ∀ (z0 : mX), mS fm L xs (fun r : mX => (mU, mk r y)) pg_X10_parts 23 [.ref 223, .int a1, .ref 226, .int a3, mU, mU, mU] [] (mk z0 y) (k23 z0)) : ∀ (n : Nat) (a4 : Int32) (x : mX), mS fm L xs (fun r : mX => (mU, mk r y)) pg_X10_parts 3 [.ref 223, .int a1, .ref 226, .int a3, .int a4, mU, mU] [] (mk x y) (f_X10_parts_L3 223 226 a3 n a4 x k23) := by
  intro n
  induction n with
  | zero => intro a4 x; exact mS_none
  | succ n ih =>
    intro a4 x
    rw [f_X10_parts_L3]
    refine mS_steps (pc' := 7) (ls' := [.ref 223, .int a1, .ref 226, .int a3, .int a4, mU, mU]) (st' := [.int (8 : Int32), .int a4]) (mem' := (mk x y)) 2 rfl ?_
    refine mS_ic3 rfl (fun _ => ?_) (fun _ => ?_)
    · refine mS_forget [.ref 223, .int a1, .ref 226, .int a3, mU, mU, mU] ⟨Or.inr rfl, Or.inr rfl, Or.inr rfl, Or.inr rfl, Or.inl rfl, Or.inl rfl, Or.inl rfl, trivial⟩ ?_
      exact hk23 x
    · refine mS_steps (pc' := 16) (ls' := [.ref 223, .int a1, .ref 226, .int a3, .int a4, mU, mU]) (st' := [.int (0 : Int32), .int (a3 + a4), .ref 226]) (mem' := (mk x y)) 5 rfl ?_
      refine mS_ast0x (n := 64) rfl rfl (by decide) (fun _ => ?_)
      refine mS_letx (fun x1 => ?_)
      refine mS_steps (pc' := 3) (ls' := [.ref 223, .int a1, .ref 226, .int a3, .int (a4 + (1 : Int32)), mU, mU]) (st' := []) (mem' := (mk x1 y)) 2 rfl ?_
      exact ih (a4 + (1 : Int32)) x1
set_option maxRecDepth 20000 in
set_option maxHeartbeats 2000000 in
theorem f_X10_parts_L63_223_226_snd {fm : Value} {L : Nat} {xs : Nat → Int32} (a1 : Int32) (a3 : Int32) (a4 : Int32) (a5 : Int32) (y : mY) (k94 : mX → Option mX) (hk94 : ∀ (z0 : mX), mS fm L xs (fun r : mX => (mU, mk r y)) pg_X10_parts 94 [.ref 223, .int a1, .ref 226, .int a3, .int a4, mU, mU] [] (mk z0 y) (k94 z0)) : ∀ (n : Nat) (a6 : Int32) (x : mX), mS fm L xs (fun r : mX => (mU, mk r y)) pg_X10_parts 63 [.ref 223, .int a1, .ref 226, .int a3, .int a4, .int a5, .int a6] [] (mk x y) (f_X10_parts_L63 223 226 a3 a5 n a6 x k94) := by
  intro n
  induction n with
  | zero => intro a6 x; exact mS_none
  | succ n ih =>
    intro a6 x
    rw [f_X10_parts_L63]
    refine mS_steps (pc' := 67) (ls' := [.ref 223, .int a1, .ref 226, .int a3, .int a4, .int a5, .int a6]) (st' := [.int (8 : Int32), .int a6]) (mem' := (mk x y)) 2 rfl ?_
    refine mS_ic3 rfl (fun _ => ?_) (fun _ => ?_)
    · refine mS_forget [.ref 223, .int a1, .ref 226, .int a3, .int a4, mU, mU] ⟨Or.inr rfl, Or.inr rfl, Or.inr rfl, Or.inr rfl, Or.inr rfl, Or.inl rfl, Or.inl rfl, trivial⟩ ?_
      exact hk94 x
    · refine mS_steps (pc' := 74) (ls' := [.ref 223, .int a1, .ref 226, .int a3, .int a4, .int a5, .int a6]) (st' := [.int a6, .int a5]) (mem' := (mk x y)) 2 rfl ?_
      refine mS_call (q := (f_X10_has a5 a6)) 57 2 [.int a5, .int a6] [] rfl rfl rfl ⟨_, _, _, rfl, rfl⟩ (Nat.le_of_ble_eq_true rfl) (Nat.le_of_ble_eq_true rfl) rfl (f_X10_has_snd a5 a6 (mk x y)) ?_
      refine mS_steps (pc' := 77) (ls' := [.ref 223, .int a1, .ref 226, .int a3, .int a4, .int a5, .int a6]) (st' := [.int (f_X10_has a5 a6)]) (mem' := (mk x y)) 0 rfl ?_
      refine mS_if0 rfl (fun _ => ?_) (fun _ => ?_)
      · refine mS_steps (pc' := 63) (ls' := [.ref 223, .int a1, .ref 226, .int a3, .int a4, .int a5, .int (a6 + (1 : Int32))]) (st' := []) (mem' := (mk x y)) 2 rfl ?_
        exact ih (a6 + (1 : Int32)) x
      · refine mS_steps (pc' := 87) (ls' := [.ref 223, .int a1, .ref 226, .int a3, .int a4, .int a5, .int a6]) (st' := [.int a5, .int (a3 + a6), .ref 226]) (mem' := (mk x y)) 5 rfl ?_
        refine mS_ast0x (n := 64) rfl rfl (by decide) (fun _ => ?_)
        refine mS_letx (fun x4 => ?_)
        refine mS_steps (pc' := 63) (ls' := [.ref 223, .int a1, .ref 226, .int a3, .int a4, .int a5, .int (a6 + (1 : Int32))]) (st' := []) (mem' := (mk x4 y)) 2 rfl ?_
        exact ih (a6 + (1 : Int32)) x4
set_option maxRecDepth 20000 in
set_option maxHeartbeats 2000000 in
theorem f_X10_parts_L26_223_226_snd {fm : Value} {L : Nat} {xs : Nat → Int32} (a1 : Int32) (a3 : Int32) (y : mY) : ∀ (n : Nat) (a4 : Int32) (x : mX), mS fm L xs (fun r : mX => (mU, mk r y)) pg_X10_parts 26 [.ref 223, .int a1, .ref 226, .int a3, .int a4, mU, mU] [] (mk x y) (f_X10_parts_L26 223 226 a1 a3 n a4 x) := by
  intro n
  induction n with
  | zero => intro a4 x; exact mS_none
  | succ n ih =>
    intro a4 x
    rw [f_X10_parts_L26]
    refine mS_steps (pc' := 30) (ls' := [.ref 223, .int a1, .ref 226, .int a3, .int a4, mU, mU]) (st' := [.int (8 : Int32), .int a4]) (mem' := (mk x y)) 2 rfl ?_
    refine mS_ic3 rfl (fun _ => ?_) (fun _ => ?_)
    · exact mS_retv ⟨_, _, _, _, _, rfl⟩ rfl
    · refine mS_steps (pc' := 36) (ls' := [.ref 223, .int a1, .ref 226, .int a3, .int a4, mU, mU]) (st' := [.int a4, .int a1]) (mem' := (mk x y)) 2 rfl ?_
      refine mS_call (q := (f_X10_has a1 a4)) 57 2 [.int a1, .int a4] [] rfl rfl rfl ⟨_, _, _, rfl, rfl⟩ (Nat.le_of_ble_eq_true rfl) (Nat.le_of_ble_eq_true rfl) rfl (f_X10_has_snd a1 a4 (mk x y)) ?_
      refine mS_steps (pc' := 39) (ls' := [.ref 223, .int a1, .ref 226, .int a3, .int a4, mU, mU]) (st' := [.int (f_X10_has a1 a4)]) (mem' := (mk x y)) 0 rfl ?_
      refine mS_if0 rfl (fun _ => ?_) (fun _ => ?_)
      · refine mS_steps (pc' := 26) (ls' := [.ref 223, .int a1, .ref 226, .int a3, .int (a4 + (1 : Int32)), mU, mU]) (st' := []) (mem' := (mk x y)) 2 rfl ?_
        exact ih (a4 + (1 : Int32)) x
      · refine mS_steps (pc' := 47) (ls' := [.ref 223, .int a1, .ref 226, .int a3, .int a4, mU, mU]) (st' := [.int (a3 + a4), .ref 226]) (mem' := (mk x y)) 4 rfl ?_
        refine mS_ald (b := 0) (n := 64) (z := (x.1 226 (a3 + a4).toNatClampNeg)) rfl (by decide) rfl (by decide) rfl (fun _ => ?_)
        refine mS_if1 rfl (fun _ => ?_) (fun _ => ?_)
        · refine mS_steps (pc' := 55) (ls' := [.ref 223, .int a1, .ref 226, .int a3, .int a4, mU, mU]) (st' := [.int a1, .int a4, .ref 223]) (mem' := (mk x y)) 3 rfl ?_
          refine mS_bind (fun q3 hq3 => mS_call 112 3 [.ref 223, .int a4, .int a1] [] rfl rfl rfl ⟨_, _, _, rfl, rfl⟩ (Nat.le_of_ble_eq_true rfl) (Nat.le_of_ble_eq_true rfl) hq3 (f_X10_reach_223_snd a4 a1 x y) ?_)
          refine mS_steps (pc' := 63) (ls' := [.ref 223, .int a1, .ref 226, .int a3, .int a4, .int q3, .int (0 : Int32)]) (st' := []) (mem' := (mk x y)) 3 rfl ?_
          refine f_X10_parts_L63_223_226_snd a1 a3 a4 q3 y _ ?_ mF (0 : Int32) x
          · intro x5
            refine mS_steps (pc' := 26) (ls' := [.ref 223, .int a1, .ref 226, .int a3, .int (a4 + (1 : Int32)), mU, mU]) (st' := []) (mem' := (mk x5 y)) 2 rfl ?_
            exact ih (a4 + (1 : Int32)) x5
        · refine mS_steps (pc' := 26) (ls' := [.ref 223, .int a1, .ref 226, .int a3, .int (a4 + (1 : Int32)), mU, mU]) (st' := []) (mem' := (mk x y)) 2 rfl ?_
          exact ih (a4 + (1 : Int32)) x
set_option maxRecDepth 20000 in
set_option maxHeartbeats 2000000 in
theorem f_X10_parts_223_226_snd {fm : Value} {L : Nat} {xs : Nat → Int32} (p1 : Int32) (p3 : Int32) (x : mX) (y : mY) : mS fm L xs (fun r : mX => (mU, mk r y)) pg_X10_parts 0 (m_entry [.ref 223, .int p1, .ref 226, .int p3] 7) [] (mk x y) ((f_X10_parts 223 p1 226 p3 x)) := by
  unfold f_X10_parts
  refine mS_steps (pc' := 0) (ls' := [.ref 223, .int p1, .ref 226, .int p3, mU, mU, mU]) (st' := []) (mem' := (mk x y)) 0 rfl ?_
  refine mS_steps (pc' := 3) (ls' := [.ref 223, .int p1, .ref 226, .int p3, .int (0 : Int32), mU, mU]) (st' := []) (mem' := (mk x y)) 2 rfl ?_
  refine f_X10_parts_L3_223_226_snd p1 p3 y _ ?_ mF (0 : Int32) x
  · intro x2
    refine mS_steps (pc' := 26) (ls' := [.ref 223, .int p1, .ref 226, .int p3, .int (0 : Int32), mU, mU]) (st' := []) (mem' := (mk x2 y)) 2 rfl ?_
    refine f_X10_parts_L26_223_226_snd p1 p3 y mF (0 : Int32) x2
set_option maxRecDepth 20000 in
set_option maxHeartbeats 2000000 in
theorem f_X10_parts_L3_259_260_snd {fm : Value} {L : Nat} {xs : Nat → Int32} (a1 : Int32) (a3 : Int32) (y : mY) (k23 : mX → Option mX) (hk23 : ∀ (z0 : mX), mS fm L xs (fun r : mX => (mU, mk r y)) pg_X10_parts 23 [.ref 259, .int a1, .ref 260, .int a3, mU, mU, mU] [] (mk z0 y) (k23 z0)) : ∀ (n : Nat) (a4 : Int32) (x : mX), mS fm L xs (fun r : mX => (mU, mk r y)) pg_X10_parts 3 [.ref 259, .int a1, .ref 260, .int a3, .int a4, mU, mU] [] (mk x y) (f_X10_parts_L3 259 260 a3 n a4 x k23) := by
  intro n
  induction n with
  | zero => intro a4 x; exact mS_none
  | succ n ih =>
    intro a4 x
    rw [f_X10_parts_L3]
    refine mS_steps (pc' := 7) (ls' := [.ref 259, .int a1, .ref 260, .int a3, .int a4, mU, mU]) (st' := [.int (8 : Int32), .int a4]) (mem' := (mk x y)) 2 rfl ?_
    refine mS_ic3 rfl (fun _ => ?_) (fun _ => ?_)
    · refine mS_forget [.ref 259, .int a1, .ref 260, .int a3, mU, mU, mU] ⟨Or.inr rfl, Or.inr rfl, Or.inr rfl, Or.inr rfl, Or.inl rfl, Or.inl rfl, Or.inl rfl, trivial⟩ ?_
      exact hk23 x
    · refine mS_steps (pc' := 16) (ls' := [.ref 259, .int a1, .ref 260, .int a3, .int a4, mU, mU]) (st' := [.int (0 : Int32), .int (a3 + a4), .ref 260]) (mem' := (mk x y)) 5 rfl ?_
      refine mS_ast0x (n := 8) rfl rfl (by decide) (fun _ => ?_)
      refine mS_letx (fun x1 => ?_)
      refine mS_steps (pc' := 3) (ls' := [.ref 259, .int a1, .ref 260, .int a3, .int (a4 + (1 : Int32)), mU, mU]) (st' := []) (mem' := (mk x1 y)) 2 rfl ?_
      exact ih (a4 + (1 : Int32)) x1
set_option maxRecDepth 20000 in
set_option maxHeartbeats 2000000 in
theorem f_X10_parts_L63_259_260_snd {fm : Value} {L : Nat} {xs : Nat → Int32} (a1 : Int32) (a3 : Int32) (a4 : Int32) (a5 : Int32) (y : mY) (k94 : mX → Option mX) (hk94 : ∀ (z0 : mX), mS fm L xs (fun r : mX => (mU, mk r y)) pg_X10_parts 94 [.ref 259, .int a1, .ref 260, .int a3, .int a4, mU, mU] [] (mk z0 y) (k94 z0)) : ∀ (n : Nat) (a6 : Int32) (x : mX), mS fm L xs (fun r : mX => (mU, mk r y)) pg_X10_parts 63 [.ref 259, .int a1, .ref 260, .int a3, .int a4, .int a5, .int a6] [] (mk x y) (f_X10_parts_L63 259 260 a3 a5 n a6 x k94) := by
  intro n
  induction n with
  | zero => intro a6 x; exact mS_none
  | succ n ih =>
    intro a6 x
    rw [f_X10_parts_L63]
    refine mS_steps (pc' := 67) (ls' := [.ref 259, .int a1, .ref 260, .int a3, .int a4, .int a5, .int a6]) (st' := [.int (8 : Int32), .int a6]) (mem' := (mk x y)) 2 rfl ?_
    refine mS_ic3 rfl (fun _ => ?_) (fun _ => ?_)
    · refine mS_forget [.ref 259, .int a1, .ref 260, .int a3, .int a4, mU, mU] ⟨Or.inr rfl, Or.inr rfl, Or.inr rfl, Or.inr rfl, Or.inr rfl, Or.inl rfl, Or.inl rfl, trivial⟩ ?_
      exact hk94 x
    · refine mS_steps (pc' := 74) (ls' := [.ref 259, .int a1, .ref 260, .int a3, .int a4, .int a5, .int a6]) (st' := [.int a6, .int a5]) (mem' := (mk x y)) 2 rfl ?_
      refine mS_call (q := (f_X10_has a5 a6)) 57 2 [.int a5, .int a6] [] rfl rfl rfl ⟨_, _, _, rfl, rfl⟩ (Nat.le_of_ble_eq_true rfl) (Nat.le_of_ble_eq_true rfl) rfl (f_X10_has_snd a5 a6 (mk x y)) ?_
      refine mS_steps (pc' := 77) (ls' := [.ref 259, .int a1, .ref 260, .int a3, .int a4, .int a5, .int a6]) (st' := [.int (f_X10_has a5 a6)]) (mem' := (mk x y)) 0 rfl ?_
      refine mS_if0 rfl (fun _ => ?_) (fun _ => ?_)
      · refine mS_steps (pc' := 63) (ls' := [.ref 259, .int a1, .ref 260, .int a3, .int a4, .int a5, .int (a6 + (1 : Int32))]) (st' := []) (mem' := (mk x y)) 2 rfl ?_
        exact ih (a6 + (1 : Int32)) x
      · refine mS_steps (pc' := 87) (ls' := [.ref 259, .int a1, .ref 260, .int a3, .int a4, .int a5, .int a6]) (st' := [.int a5, .int (a3 + a6), .ref 260]) (mem' := (mk x y)) 5 rfl ?_
        refine mS_ast0x (n := 8) rfl rfl (by decide) (fun _ => ?_)
        refine mS_letx (fun x4 => ?_)
        refine mS_steps (pc' := 63) (ls' := [.ref 259, .int a1, .ref 260, .int a3, .int a4, .int a5, .int (a6 + (1 : Int32))]) (st' := []) (mem' := (mk x4 y)) 2 rfl ?_
        exact ih (a6 + (1 : Int32)) x4
set_option maxRecDepth 20000 in
set_option maxHeartbeats 2000000 in
theorem f_X10_parts_L26_259_260_snd {fm : Value} {L : Nat} {xs : Nat → Int32} (a1 : Int32) (a3 : Int32) (y : mY) : ∀ (n : Nat) (a4 : Int32) (x : mX), mS fm L xs (fun r : mX => (mU, mk r y)) pg_X10_parts 26 [.ref 259, .int a1, .ref 260, .int a3, .int a4, mU, mU] [] (mk x y) (f_X10_parts_L26 259 260 a1 a3 n a4 x) := by
  intro n
  induction n with
  | zero => intro a4 x; exact mS_none
  | succ n ih =>
    intro a4 x
    rw [f_X10_parts_L26]
    refine mS_steps (pc' := 30) (ls' := [.ref 259, .int a1, .ref 260, .int a3, .int a4, mU, mU]) (st' := [.int (8 : Int32), .int a4]) (mem' := (mk x y)) 2 rfl ?_
    refine mS_ic3 rfl (fun _ => ?_) (fun _ => ?_)
    · exact mS_retv ⟨_, _, _, _, _, rfl⟩ rfl
    · refine mS_steps (pc' := 36) (ls' := [.ref 259, .int a1, .ref 260, .int a3, .int a4, mU, mU]) (st' := [.int a4, .int a1]) (mem' := (mk x y)) 2 rfl ?_
      refine mS_call (q := (f_X10_has a1 a4)) 57 2 [.int a1, .int a4] [] rfl rfl rfl ⟨_, _, _, rfl, rfl⟩ (Nat.le_of_ble_eq_true rfl) (Nat.le_of_ble_eq_true rfl) rfl (f_X10_has_snd a1 a4 (mk x y)) ?_
      refine mS_steps (pc' := 39) (ls' := [.ref 259, .int a1, .ref 260, .int a3, .int a4, mU, mU]) (st' := [.int (f_X10_has a1 a4)]) (mem' := (mk x y)) 0 rfl ?_
      refine mS_if0 rfl (fun _ => ?_) (fun _ => ?_)
      · refine mS_steps (pc' := 26) (ls' := [.ref 259, .int a1, .ref 260, .int a3, .int (a4 + (1 : Int32)), mU, mU]) (st' := []) (mem' := (mk x y)) 2 rfl ?_
        exact ih (a4 + (1 : Int32)) x
      · refine mS_steps (pc' := 47) (ls' := [.ref 259, .int a1, .ref 260, .int a3, .int a4, mU, mU]) (st' := [.int (a3 + a4), .ref 260]) (mem' := (mk x y)) 4 rfl ?_
        refine mS_ald (b := 0) (n := 8) (z := (x.1 260 (a3 + a4).toNatClampNeg)) rfl (by decide) rfl (by decide) rfl (fun _ => ?_)
        refine mS_if1 rfl (fun _ => ?_) (fun _ => ?_)
        · refine mS_steps (pc' := 55) (ls' := [.ref 259, .int a1, .ref 260, .int a3, .int a4, mU, mU]) (st' := [.int a1, .int a4, .ref 259]) (mem' := (mk x y)) 3 rfl ?_
          refine mS_bind (fun q3 hq3 => mS_call 112 3 [.ref 259, .int a4, .int a1] [] rfl rfl rfl ⟨_, _, _, rfl, rfl⟩ (Nat.le_of_ble_eq_true rfl) (Nat.le_of_ble_eq_true rfl) hq3 (f_X10_reach_259_snd a4 a1 x y) ?_)
          refine mS_steps (pc' := 63) (ls' := [.ref 259, .int a1, .ref 260, .int a3, .int a4, .int q3, .int (0 : Int32)]) (st' := []) (mem' := (mk x y)) 3 rfl ?_
          refine f_X10_parts_L63_259_260_snd a1 a3 a4 q3 y _ ?_ mF (0 : Int32) x
          · intro x5
            refine mS_steps (pc' := 26) (ls' := [.ref 259, .int a1, .ref 260, .int a3, .int (a4 + (1 : Int32)), mU, mU]) (st' := []) (mem' := (mk x5 y)) 2 rfl ?_
            exact ih (a4 + (1 : Int32)) x5
        · refine mS_steps (pc' := 26) (ls' := [.ref 259, .int a1, .ref 260, .int a3, .int (a4 + (1 : Int32)), mU, mU]) (st' := []) (mem' := (mk x y)) 2 rfl ?_
          exact ih (a4 + (1 : Int32)) x
set_option maxRecDepth 20000 in
set_option maxHeartbeats 2000000 in
theorem f_X10_parts_259_260_snd {fm : Value} {L : Nat} {xs : Nat → Int32} (p1 : Int32) (p3 : Int32) (x : mX) (y : mY) : mS fm L xs (fun r : mX => (mU, mk r y)) pg_X10_parts 0 (m_entry [.ref 259, .int p1, .ref 260, .int p3] 7) [] (mk x y) ((f_X10_parts 259 p1 260 p3 x)) := by
  unfold f_X10_parts
  refine mS_steps (pc' := 0) (ls' := [.ref 259, .int p1, .ref 260, .int p3, mU, mU, mU]) (st' := []) (mem' := (mk x y)) 0 rfl ?_
  refine mS_steps (pc' := 3) (ls' := [.ref 259, .int p1, .ref 260, .int p3, .int (0 : Int32), mU, mU]) (st' := []) (mem' := (mk x y)) 2 rfl ?_
  refine f_X10_parts_L3_259_260_snd p1 p3 y _ ?_ mF (0 : Int32) x
  · intro x2
    refine mS_steps (pc' := 26) (ls' := [.ref 259, .int p1, .ref 260, .int p3, .int (0 : Int32), mU, mU]) (st' := []) (mem' := (mk x2 y)) 2 rfl ?_
    refine f_X10_parts_L26_259_260_snd p1 p3 y mF (0 : Int32) x2
set_option maxRecDepth 20000 in
set_option maxHeartbeats 2000000 in
theorem f_X10_parts_L3_259_262_snd {fm : Value} {L : Nat} {xs : Nat → Int32} (a1 : Int32) (a3 : Int32) (y : mY) (k23 : mX → Option mX) (hk23 : ∀ (z0 : mX), mS fm L xs (fun r : mX => (mU, mk r y)) pg_X10_parts 23 [.ref 259, .int a1, .ref 262, .int a3, mU, mU, mU] [] (mk z0 y) (k23 z0)) : ∀ (n : Nat) (a4 : Int32) (x : mX), mS fm L xs (fun r : mX => (mU, mk r y)) pg_X10_parts 3 [.ref 259, .int a1, .ref 262, .int a3, .int a4, mU, mU] [] (mk x y) (f_X10_parts_L3 259 262 a3 n a4 x k23) := by
  intro n
  induction n with
  | zero => intro a4 x; exact mS_none
  | succ n ih =>
    intro a4 x
    rw [f_X10_parts_L3]
    refine mS_steps (pc' := 7) (ls' := [.ref 259, .int a1, .ref 262, .int a3, .int a4, mU, mU]) (st' := [.int (8 : Int32), .int a4]) (mem' := (mk x y)) 2 rfl ?_
    refine mS_ic3 rfl (fun _ => ?_) (fun _ => ?_)
    · refine mS_forget [.ref 259, .int a1, .ref 262, .int a3, mU, mU, mU] ⟨Or.inr rfl, Or.inr rfl, Or.inr rfl, Or.inr rfl, Or.inl rfl, Or.inl rfl, Or.inl rfl, trivial⟩ ?_
      exact hk23 x
    · refine mS_steps (pc' := 16) (ls' := [.ref 259, .int a1, .ref 262, .int a3, .int a4, mU, mU]) (st' := [.int (0 : Int32), .int (a3 + a4), .ref 262]) (mem' := (mk x y)) 5 rfl ?_
      refine mS_ast0x (n := 64) rfl rfl (by decide) (fun _ => ?_)
      refine mS_letx (fun x1 => ?_)
      refine mS_steps (pc' := 3) (ls' := [.ref 259, .int a1, .ref 262, .int a3, .int (a4 + (1 : Int32)), mU, mU]) (st' := []) (mem' := (mk x1 y)) 2 rfl ?_
      exact ih (a4 + (1 : Int32)) x1
set_option maxRecDepth 20000 in
set_option maxHeartbeats 2000000 in
theorem f_X10_parts_L63_259_262_snd {fm : Value} {L : Nat} {xs : Nat → Int32} (a1 : Int32) (a3 : Int32) (a4 : Int32) (a5 : Int32) (y : mY) (k94 : mX → Option mX) (hk94 : ∀ (z0 : mX), mS fm L xs (fun r : mX => (mU, mk r y)) pg_X10_parts 94 [.ref 259, .int a1, .ref 262, .int a3, .int a4, mU, mU] [] (mk z0 y) (k94 z0)) : ∀ (n : Nat) (a6 : Int32) (x : mX), mS fm L xs (fun r : mX => (mU, mk r y)) pg_X10_parts 63 [.ref 259, .int a1, .ref 262, .int a3, .int a4, .int a5, .int a6] [] (mk x y) (f_X10_parts_L63 259 262 a3 a5 n a6 x k94) := by
  intro n
  induction n with
  | zero => intro a6 x; exact mS_none
  | succ n ih =>
    intro a6 x
    rw [f_X10_parts_L63]
    refine mS_steps (pc' := 67) (ls' := [.ref 259, .int a1, .ref 262, .int a3, .int a4, .int a5, .int a6]) (st' := [.int (8 : Int32), .int a6]) (mem' := (mk x y)) 2 rfl ?_
    refine mS_ic3 rfl (fun _ => ?_) (fun _ => ?_)
    · refine mS_forget [.ref 259, .int a1, .ref 262, .int a3, .int a4, mU, mU] ⟨Or.inr rfl, Or.inr rfl, Or.inr rfl, Or.inr rfl, Or.inr rfl, Or.inl rfl, Or.inl rfl, trivial⟩ ?_
      exact hk94 x
    · refine mS_steps (pc' := 74) (ls' := [.ref 259, .int a1, .ref 262, .int a3, .int a4, .int a5, .int a6]) (st' := [.int a6, .int a5]) (mem' := (mk x y)) 2 rfl ?_
      refine mS_call (q := (f_X10_has a5 a6)) 57 2 [.int a5, .int a6] [] rfl rfl rfl ⟨_, _, _, rfl, rfl⟩ (Nat.le_of_ble_eq_true rfl) (Nat.le_of_ble_eq_true rfl) rfl (f_X10_has_snd a5 a6 (mk x y)) ?_
      refine mS_steps (pc' := 77) (ls' := [.ref 259, .int a1, .ref 262, .int a3, .int a4, .int a5, .int a6]) (st' := [.int (f_X10_has a5 a6)]) (mem' := (mk x y)) 0 rfl ?_
      refine mS_if0 rfl (fun _ => ?_) (fun _ => ?_)
      · refine mS_steps (pc' := 63) (ls' := [.ref 259, .int a1, .ref 262, .int a3, .int a4, .int a5, .int (a6 + (1 : Int32))]) (st' := []) (mem' := (mk x y)) 2 rfl ?_
        exact ih (a6 + (1 : Int32)) x
      · refine mS_steps (pc' := 87) (ls' := [.ref 259, .int a1, .ref 262, .int a3, .int a4, .int a5, .int a6]) (st' := [.int a5, .int (a3 + a6), .ref 262]) (mem' := (mk x y)) 5 rfl ?_
        refine mS_ast0x (n := 64) rfl rfl (by decide) (fun _ => ?_)
        refine mS_letx (fun x4 => ?_)
        refine mS_steps (pc' := 63) (ls' := [.ref 259, .int a1, .ref 262, .int a3, .int a4, .int a5, .int (a6 + (1 : Int32))]) (st' := []) (mem' := (mk x4 y)) 2 rfl ?_
        exact ih (a6 + (1 : Int32)) x4
set_option maxRecDepth 20000 in
set_option maxHeartbeats 2000000 in
theorem f_X10_parts_L26_259_262_snd {fm : Value} {L : Nat} {xs : Nat → Int32} (a1 : Int32) (a3 : Int32) (y : mY) : ∀ (n : Nat) (a4 : Int32) (x : mX), mS fm L xs (fun r : mX => (mU, mk r y)) pg_X10_parts 26 [.ref 259, .int a1, .ref 262, .int a3, .int a4, mU, mU] [] (mk x y) (f_X10_parts_L26 259 262 a1 a3 n a4 x) := by
  intro n
  induction n with
  | zero => intro a4 x; exact mS_none
  | succ n ih =>
    intro a4 x
    rw [f_X10_parts_L26]
    refine mS_steps (pc' := 30) (ls' := [.ref 259, .int a1, .ref 262, .int a3, .int a4, mU, mU]) (st' := [.int (8 : Int32), .int a4]) (mem' := (mk x y)) 2 rfl ?_
    refine mS_ic3 rfl (fun _ => ?_) (fun _ => ?_)
    · exact mS_retv ⟨_, _, _, _, _, rfl⟩ rfl
    · refine mS_steps (pc' := 36) (ls' := [.ref 259, .int a1, .ref 262, .int a3, .int a4, mU, mU]) (st' := [.int a4, .int a1]) (mem' := (mk x y)) 2 rfl ?_
      refine mS_call (q := (f_X10_has a1 a4)) 57 2 [.int a1, .int a4] [] rfl rfl rfl ⟨_, _, _, rfl, rfl⟩ (Nat.le_of_ble_eq_true rfl) (Nat.le_of_ble_eq_true rfl) rfl (f_X10_has_snd a1 a4 (mk x y)) ?_
      refine mS_steps (pc' := 39) (ls' := [.ref 259, .int a1, .ref 262, .int a3, .int a4, mU, mU]) (st' := [.int (f_X10_has a1 a4)]) (mem' := (mk x y)) 0 rfl ?_
      refine mS_if0 rfl (fun _ => ?_) (fun _ => ?_)
      · refine mS_steps (pc' := 26) (ls' := [.ref 259, .int a1, .ref 262, .int a3, .int (a4 + (1 : Int32)), mU, mU]) (st' := []) (mem' := (mk x y)) 2 rfl ?_
        exact ih (a4 + (1 : Int32)) x
      · refine mS_steps (pc' := 47) (ls' := [.ref 259, .int a1, .ref 262, .int a3, .int a4, mU, mU]) (st' := [.int (a3 + a4), .ref 262]) (mem' := (mk x y)) 4 rfl ?_
        refine mS_ald (b := 0) (n := 64) (z := (x.1 262 (a3 + a4).toNatClampNeg)) rfl (by decide) rfl (by decide) rfl (fun _ => ?_)
        refine mS_if1 rfl (fun _ => ?_) (fun _ => ?_)
        · refine mS_steps (pc' := 55) (ls' := [.ref 259, .int a1, .ref 262, .int a3, .int a4, mU, mU]) (st' := [.int a1, .int a4, .ref 259]) (mem' := (mk x y)) 3 rfl ?_
          refine mS_bind (fun q3 hq3 => mS_call 112 3 [.ref 259, .int a4, .int a1] [] rfl rfl rfl ⟨_, _, _, rfl, rfl⟩ (Nat.le_of_ble_eq_true rfl) (Nat.le_of_ble_eq_true rfl) hq3 (f_X10_reach_259_snd a4 a1 x y) ?_)
          refine mS_steps (pc' := 63) (ls' := [.ref 259, .int a1, .ref 262, .int a3, .int a4, .int q3, .int (0 : Int32)]) (st' := []) (mem' := (mk x y)) 3 rfl ?_
          refine f_X10_parts_L63_259_262_snd a1 a3 a4 q3 y _ ?_ mF (0 : Int32) x
          · intro x5
            refine mS_steps (pc' := 26) (ls' := [.ref 259, .int a1, .ref 262, .int a3, .int (a4 + (1 : Int32)), mU, mU]) (st' := []) (mem' := (mk x5 y)) 2 rfl ?_
            exact ih (a4 + (1 : Int32)) x5
        · refine mS_steps (pc' := 26) (ls' := [.ref 259, .int a1, .ref 262, .int a3, .int (a4 + (1 : Int32)), mU, mU]) (st' := []) (mem' := (mk x y)) 2 rfl ?_
          exact ih (a4 + (1 : Int32)) x
set_option maxRecDepth 20000 in
set_option maxHeartbeats 2000000 in
theorem f_X10_parts_259_262_snd {fm : Value} {L : Nat} {xs : Nat → Int32} (p1 : Int32) (p3 : Int32) (x : mX) (y : mY) : mS fm L xs (fun r : mX => (mU, mk r y)) pg_X10_parts 0 (m_entry [.ref 259, .int p1, .ref 262, .int p3] 7) [] (mk x y) ((f_X10_parts 259 p1 262 p3 x)) := by
  unfold f_X10_parts
  refine mS_steps (pc' := 0) (ls' := [.ref 259, .int p1, .ref 262, .int p3, mU, mU, mU]) (st' := []) (mem' := (mk x y)) 0 rfl ?_
  refine mS_steps (pc' := 3) (ls' := [.ref 259, .int p1, .ref 262, .int p3, .int (0 : Int32), mU, mU]) (st' := []) (mem' := (mk x y)) 2 rfl ?_
  refine f_X10_parts_L3_259_262_snd p1 p3 y _ ?_ mF (0 : Int32) x
  · intro x2
    refine mS_steps (pc' := 26) (ls' := [.ref 259, .int p1, .ref 262, .int p3, .int (0 : Int32), mU, mU]) (st' := []) (mem' := (mk x2 y)) 2 rfl ?_
    refine f_X10_parts_L26_259_262_snd p1 p3 y mF (0 : Int32) x2
def f_X3_divide_L18 (r0 : Nat) : Nat → Int32 → mX → Option mX
  | 0, _, _ => none
  | n + 1, a1, x => (if (8 : Int32) ≤ a1 then (some x) else ((f_X10_parts (r0 + 1) ((x.1 r0 0) &&& (((1 : Int32) <<< (a1 &&& 31)) ^^^ (-1 : Int32))) (r0 + 4) (a1 * (8 : Int32)) x).bind fun q2 => (f_X3_divide_L18 r0 n (a1 + (1 : Int32)) q2)))
def f_X3_divide (r0 : Nat) (x : mX) : Option mX := ((f_X10_parts (r0 + 1) (x.1 r0 0) (r0 + 2) (0 : Int32) x).bind fun q1 => (f_X3_divide_L18 r0 mF (0 : Int32) q1))
set_option maxRecDepth 20000 in
set_option maxHeartbeats 2000000 in
theorem f_X3_divide_L18_228_snd {fm : Value} {L : Nat} {xs : Nat → Int32} (y : mY) : ∀ (n : Nat) (a1 : Int32) (x : mX), mS fm L xs (fun r : mX => (mU, mk r y)) pg_X3_divide 18 [.ref 228, .int a1] [] (mk x y) (f_X3_divide_L18 228 n a1 x) := by
  intro n
  induction n with
  | zero => intro a1 x; exact mS_none
  | succ n ih =>
    intro a1 x
    rw [f_X3_divide_L18]
    refine mS_steps (pc' := 21) (ls' := [.ref 228, .int a1]) (st' := [.int (8 : Int32), .int a1]) (mem' := (mk x y)) 2 rfl ?_
    refine mS_ic3 rfl (fun _ => ?_) (fun _ => ?_)
    · exact mS_retv ⟨_, _, _, _, _, rfl⟩ rfl
    · refine mS_steps (pc' := 46) (ls' := [.ref 228, .int a1]) (st' := [.int (a1 * (8 : Int32)), .ref 232, .int ((x.1 228 0) &&& (((1 : Int32) <<< (a1 &&& 31)) ^^^ (-1 : Int32))), .ref 229]) (mem' := (mk x y)) 15 rfl ?_
      refine mS_bind (fun q2 hq2 => mS_call 113 4 [.ref 229, .int ((x.1 228 0) &&& (((1 : Int32) <<< (a1 &&& 31)) ^^^ (-1 : Int32))), .ref 232, .int (a1 * (8 : Int32))] [] rfl rfl rfl ⟨_, _, _, rfl, rfl⟩ (Nat.le_of_ble_eq_true rfl) (Nat.le_of_ble_eq_true rfl) hq2 (f_X10_parts_229_232_snd ((x.1 228 0) &&& (((1 : Int32) <<< (a1 &&& 31)) ^^^ (-1 : Int32))) (a1 * (8 : Int32)) x y) ?_)
      refine mS_steps (pc' := 18) (ls' := [.ref 228, .int (a1 + (1 : Int32))]) (st' := []) (mem' := (mk q2 y)) 2 rfl ?_
      exact ih (a1 + (1 : Int32)) q2
set_option maxRecDepth 20000 in
set_option maxHeartbeats 2000000 in
theorem f_X3_divide_228_snd {fm : Value} {L : Nat} {xs : Nat → Int32} (x : mX) (y : mY) : mS fm L xs (fun r : mX => (mU, mk r y)) pg_X3_divide 0 (m_entry [.ref 228] 2) [] (mk x y) ((f_X3_divide 228 x)) := by
  unfold f_X3_divide
  refine mS_steps (pc' := 0) (ls' := [.ref 228, mU]) (st' := []) (mem' := (mk x y)) 0 rfl ?_
  refine mS_steps (pc' := 13) (ls' := [.ref 228, mU]) (st' := [.int (0 : Int32), .ref 230, .int (x.1 228 0), .ref 229]) (mem' := (mk x y)) 7 rfl ?_
  refine mS_bind (fun q1 hq1 => mS_call 113 4 [.ref 229, .int (x.1 228 0), .ref 230, .int (0 : Int32)] [] rfl rfl rfl ⟨_, _, _, rfl, rfl⟩ (Nat.le_of_ble_eq_true rfl) (Nat.le_of_ble_eq_true rfl) hq1 (f_X10_parts_229_230_snd (x.1 228 0) (0 : Int32) x y) ?_)
  refine mS_steps (pc' := 18) (ls' := [.ref 228, .int (0 : Int32)]) (st' := []) (mem' := (mk q1 y)) 2 rfl ?_
  refine f_X3_divide_L18_228_snd y mF (0 : Int32) q1
set_option maxRecDepth 20000 in
set_option maxHeartbeats 2000000 in
theorem f_X3_divide_L18_222_snd {fm : Value} {L : Nat} {xs : Nat → Int32} (y : mY) : ∀ (n : Nat) (a1 : Int32) (x : mX), mS fm L xs (fun r : mX => (mU, mk r y)) pg_X3_divide 18 [.ref 222, .int a1] [] (mk x y) (f_X3_divide_L18 222 n a1 x) := by
  intro n
  induction n with
  | zero => intro a1 x; exact mS_none
  | succ n ih =>
    intro a1 x
    rw [f_X3_divide_L18]
    refine mS_steps (pc' := 21) (ls' := [.ref 222, .int a1]) (st' := [.int (8 : Int32), .int a1]) (mem' := (mk x y)) 2 rfl ?_
    refine mS_ic3 rfl (fun _ => ?_) (fun _ => ?_)
    · exact mS_retv ⟨_, _, _, _, _, rfl⟩ rfl
    · refine mS_steps (pc' := 46) (ls' := [.ref 222, .int a1]) (st' := [.int (a1 * (8 : Int32)), .ref 226, .int ((x.1 222 0) &&& (((1 : Int32) <<< (a1 &&& 31)) ^^^ (-1 : Int32))), .ref 223]) (mem' := (mk x y)) 15 rfl ?_
      refine mS_bind (fun q2 hq2 => mS_call 113 4 [.ref 223, .int ((x.1 222 0) &&& (((1 : Int32) <<< (a1 &&& 31)) ^^^ (-1 : Int32))), .ref 226, .int (a1 * (8 : Int32))] [] rfl rfl rfl ⟨_, _, _, rfl, rfl⟩ (Nat.le_of_ble_eq_true rfl) (Nat.le_of_ble_eq_true rfl) hq2 (f_X10_parts_223_226_snd ((x.1 222 0) &&& (((1 : Int32) <<< (a1 &&& 31)) ^^^ (-1 : Int32))) (a1 * (8 : Int32)) x y) ?_)
      refine mS_steps (pc' := 18) (ls' := [.ref 222, .int (a1 + (1 : Int32))]) (st' := []) (mem' := (mk q2 y)) 2 rfl ?_
      exact ih (a1 + (1 : Int32)) q2
set_option maxRecDepth 20000 in
set_option maxHeartbeats 2000000 in
theorem f_X3_divide_222_snd {fm : Value} {L : Nat} {xs : Nat → Int32} (x : mX) (y : mY) : mS fm L xs (fun r : mX => (mU, mk r y)) pg_X3_divide 0 (m_entry [.ref 222] 2) [] (mk x y) ((f_X3_divide 222 x)) := by
  unfold f_X3_divide
  refine mS_steps (pc' := 0) (ls' := [.ref 222, mU]) (st' := []) (mem' := (mk x y)) 0 rfl ?_
  refine mS_steps (pc' := 13) (ls' := [.ref 222, mU]) (st' := [.int (0 : Int32), .ref 224, .int (x.1 222 0), .ref 223]) (mem' := (mk x y)) 7 rfl ?_
  refine mS_bind (fun q1 hq1 => mS_call 113 4 [.ref 223, .int (x.1 222 0), .ref 224, .int (0 : Int32)] [] rfl rfl rfl ⟨_, _, _, rfl, rfl⟩ (Nat.le_of_ble_eq_true rfl) (Nat.le_of_ble_eq_true rfl) hq1 (f_X10_parts_223_224_snd (x.1 222 0) (0 : Int32) x y) ?_)
  refine mS_steps (pc' := 18) (ls' := [.ref 222, .int (0 : Int32)]) (st' := []) (mem' := (mk q1 y)) 2 rfl ?_
  refine f_X3_divide_L18_222_snd y mF (0 : Int32) q1
set_option maxRecDepth 20000 in
set_option maxHeartbeats 2000000 in
theorem f_X3_divide_L18_258_snd {fm : Value} {L : Nat} {xs : Nat → Int32} (y : mY) : ∀ (n : Nat) (a1 : Int32) (x : mX), mS fm L xs (fun r : mX => (mU, mk r y)) pg_X3_divide 18 [.ref 258, .int a1] [] (mk x y) (f_X3_divide_L18 258 n a1 x) := by
  intro n
  induction n with
  | zero => intro a1 x; exact mS_none
  | succ n ih =>
    intro a1 x
    rw [f_X3_divide_L18]
    refine mS_steps (pc' := 21) (ls' := [.ref 258, .int a1]) (st' := [.int (8 : Int32), .int a1]) (mem' := (mk x y)) 2 rfl ?_
    refine mS_ic3 rfl (fun _ => ?_) (fun _ => ?_)
    · exact mS_retv ⟨_, _, _, _, _, rfl⟩ rfl
    · refine mS_steps (pc' := 46) (ls' := [.ref 258, .int a1]) (st' := [.int (a1 * (8 : Int32)), .ref 262, .int ((x.1 258 0) &&& (((1 : Int32) <<< (a1 &&& 31)) ^^^ (-1 : Int32))), .ref 259]) (mem' := (mk x y)) 15 rfl ?_
      refine mS_bind (fun q2 hq2 => mS_call 113 4 [.ref 259, .int ((x.1 258 0) &&& (((1 : Int32) <<< (a1 &&& 31)) ^^^ (-1 : Int32))), .ref 262, .int (a1 * (8 : Int32))] [] rfl rfl rfl ⟨_, _, _, rfl, rfl⟩ (Nat.le_of_ble_eq_true rfl) (Nat.le_of_ble_eq_true rfl) hq2 (f_X10_parts_259_262_snd ((x.1 258 0) &&& (((1 : Int32) <<< (a1 &&& 31)) ^^^ (-1 : Int32))) (a1 * (8 : Int32)) x y) ?_)
      refine mS_steps (pc' := 18) (ls' := [.ref 258, .int (a1 + (1 : Int32))]) (st' := []) (mem' := (mk q2 y)) 2 rfl ?_
      exact ih (a1 + (1 : Int32)) q2
set_option maxRecDepth 20000 in
set_option maxHeartbeats 2000000 in
theorem f_X3_divide_258_snd {fm : Value} {L : Nat} {xs : Nat → Int32} (x : mX) (y : mY) : mS fm L xs (fun r : mX => (mU, mk r y)) pg_X3_divide 0 (m_entry [.ref 258] 2) [] (mk x y) ((f_X3_divide 258 x)) := by
  unfold f_X3_divide
  refine mS_steps (pc' := 0) (ls' := [.ref 258, mU]) (st' := []) (mem' := (mk x y)) 0 rfl ?_
  refine mS_steps (pc' := 13) (ls' := [.ref 258, mU]) (st' := [.int (0 : Int32), .ref 260, .int (x.1 258 0), .ref 259]) (mem' := (mk x y)) 7 rfl ?_
  refine mS_bind (fun q1 hq1 => mS_call 113 4 [.ref 259, .int (x.1 258 0), .ref 260, .int (0 : Int32)] [] rfl rfl rfl ⟨_, _, _, rfl, rfl⟩ (Nat.le_of_ble_eq_true rfl) (Nat.le_of_ble_eq_true rfl) hq1 (f_X10_parts_259_260_snd (x.1 258 0) (0 : Int32) x y) ?_)
  refine mS_steps (pc' := 18) (ls' := [.ref 258, .int (0 : Int32)]) (st' := []) (mem' := (mk q1 y)) 2 rfl ?_
  refine f_X3_divide_L18_258_snd y mF (0 : Int32) q1
def f_X3_without (r0 : Nat) (p1 : Int32) (p2 : Int32) (x : mX) : Option Int32 := (if m_in ((p1 * (8 : Int32)) + p2) 64 = true then (some (x.1 (r0 + 4) ((p1 * (8 : Int32)) + p2).toNatClampNeg)) else none)
set_option maxRecDepth 20000 in
set_option maxHeartbeats 2000000 in
theorem f_X3_without_228_snd {fm : Value} {L : Nat} {xs : Nat → Int32} (p1 : Int32) (p2 : Int32) (x : mX) (y : mY) : mS fm L xs (fun r : Int32 => (.int r, (mk x y))) pg_X3_without 0 (m_entry [.ref 228, .int p1, .int p2] 3) [] (mk x y) ((f_X3_without 228 p1 p2 x)) := by
  unfold f_X3_without
  refine mS_steps (pc' := 0) (ls' := [.ref 228, .int p1, .int p2]) (st' := []) (mem' := (mk x y)) 0 rfl ?_
  refine mS_steps (pc' := 10) (ls' := [.ref 228, .int p1, .int p2]) (st' := [.int ((p1 * (8 : Int32)) + p2), .ref 232]) (mem' := (mk x y)) 7 rfl ?_
  refine mS_ald (b := 0) (n := 64) (z := (x.1 (228 + 4) ((p1 * (8 : Int32)) + p2).toNatClampNeg)) rfl (by decide) rfl (by decide) rfl (fun _ => ?_)
  exact mS_reti ⟨_, _, _, _, _, rfl, rfl⟩ rfl
set_option maxRecDepth 20000 in
set_option maxHeartbeats 2000000 in
theorem f_X3_without_222_snd {fm : Value} {L : Nat} {xs : Nat → Int32} (p1 : Int32) (p2 : Int32) (x : mX) (y : mY) : mS fm L xs (fun r : Int32 => (.int r, (mk x y))) pg_X3_without 0 (m_entry [.ref 222, .int p1, .int p2] 3) [] (mk x y) ((f_X3_without 222 p1 p2 x)) := by
  unfold f_X3_without
  refine mS_steps (pc' := 0) (ls' := [.ref 222, .int p1, .int p2]) (st' := []) (mem' := (mk x y)) 0 rfl ?_
  refine mS_steps (pc' := 10) (ls' := [.ref 222, .int p1, .int p2]) (st' := [.int ((p1 * (8 : Int32)) + p2), .ref 226]) (mem' := (mk x y)) 7 rfl ?_
  refine mS_ald (b := 0) (n := 64) (z := (x.1 (222 + 4) ((p1 * (8 : Int32)) + p2).toNatClampNeg)) rfl (by decide) rfl (by decide) rfl (fun _ => ?_)
  exact mS_reti ⟨_, _, _, _, _, rfl, rfl⟩ rfl
set_option maxRecDepth 20000 in
set_option maxHeartbeats 2000000 in
theorem f_X3_without_258_snd {fm : Value} {L : Nat} {xs : Nat → Int32} (p1 : Int32) (p2 : Int32) (x : mX) (y : mY) : mS fm L xs (fun r : Int32 => (.int r, (mk x y))) pg_X3_without 0 (m_entry [.ref 258, .int p1, .int p2] 3) [] (mk x y) ((f_X3_without 258 p1 p2 x)) := by
  unfold f_X3_without
  refine mS_steps (pc' := 0) (ls' := [.ref 258, .int p1, .int p2]) (st' := []) (mem' := (mk x y)) 0 rfl ?_
  refine mS_steps (pc' := 10) (ls' := [.ref 258, .int p1, .int p2]) (st' := [.int ((p1 * (8 : Int32)) + p2), .ref 262]) (mem' := (mk x y)) 7 rfl ?_
  refine mS_ald (b := 0) (n := 64) (z := (x.1 (258 + 4) ((p1 * (8 : Int32)) + p2).toNatClampNeg)) rfl (by decide) rfl (by decide) rfl (fun _ => ?_)
  exact mS_reti ⟨_, _, _, _, _, rfl, rfl⟩ rfl
def f_X3_match_L22 (r0 : Nat) (a1 : Int32) : Nat → Int32 → mX → (mX → Option mX) → Option mX
  | 0, _, _, _ => none
  | n + 1, a2, x, k80 => (if (8 : Int32) ≤ a2 then (k80 x) else (if a2 = a1 then (f_X3_match_L22 r0 a1 n (a2 + (1 : Int32)) x k80) else (if (f_X10_has (x.1 r0 0) a1) = 0 then (f_X3_match_L22 r0 a1 n (a2 + (1 : Int32)) x k80) else (if (f_X10_has (x.1 r0 0) a2) = 0 then (f_X3_match_L22 r0 a1 n (a2 + (1 : Int32)) x k80) else (if m_in a1 8 = true then ((f_X3_without r0 a2 a1 x).bind fun q2 => (if m_in a1 8 = true then (m_let (m_xs x (r0 + 5) a1.toNatClampNeg ((x.1 (r0 + 5) a1.toNatClampNeg) &&& (q2 ||| ((1 : Int32) <<< (a2 &&& 31))))) fun x3 => (f_X3_match_L22 r0 a1 n (a2 + (1 : Int32)) x3 k80)) else none)) else none)))))
def f_X3_match_L2 (r0 : Nat) : Nat → Int32 → mX → Option mX
  | 0, _, _ => none
  | n + 1, a1, x => (if (8 : Int32) ≤ a1 then (some x) else (if m_in a1 8 = true then (if m_in a1 8 = true then (m_let (m_xs x (r0 + 5) a1.toNatClampNeg (x.1 (r0 + 2) a1.toNatClampNeg)) fun x1 => (f_X3_match_L22 r0 a1 mF (0 : Int32) x1 (fun x4 => (f_X3_match_L2 r0 n (a1 + (1 : Int32)) x4)))) else none) else none))
def f_X3_match (r0 : Nat) (x : mX) : Option mX := (f_X3_match_L2 r0 mF (0 : Int32) x)
set_option maxRecDepth 20000 in
set_option maxHeartbeats 2000000 in
theorem f_X3_match_L22_228_snd {fm : Value} {L : Nat} {xs : Nat → Int32} (a1 : Int32) (y : mY) (k80 : mX → Option mX) (hk80 : ∀ (z0 : mX), mS fm L xs (fun r : mX => (mU, mk r y)) pg_X3_match 80 [.ref 228, .int a1, mU] [] (mk z0 y) (k80 z0)) : ∀ (n : Nat) (a2 : Int32) (x : mX), mS fm L xs (fun r : mX => (mU, mk r y)) pg_X3_match 22 [.ref 228, .int a1, .int a2] [] (mk x y) (f_X3_match_L22 228 a1 n a2 x k80) := by
  intro n
  induction n with
  | zero => intro a2 x; exact mS_none
  | succ n ih =>
    intro a2 x
    rw [f_X3_match_L22]
    refine mS_steps (pc' := 25) (ls' := [.ref 228, .int a1, .int a2]) (st' := [.int (8 : Int32), .int a2]) (mem' := (mk x y)) 2 rfl ?_
    refine mS_ic3 rfl (fun _ => ?_) (fun _ => ?_)
    · refine mS_forget [.ref 228, .int a1, mU] ⟨Or.inr rfl, Or.inr rfl, Or.inl rfl, trivial⟩ ?_
      exact hk80 x
    · refine mS_steps (pc' := 30) (ls' := [.ref 228, .int a1, .int a2]) (st' := [.int a1, .int a2]) (mem' := (mk x y)) 2 rfl ?_
      refine mS_ic0 rfl (fun _ => ?_) (fun _ => ?_)
      · refine mS_steps (pc' := 22) (ls' := [.ref 228, .int a1, .int (a2 + (1 : Int32))]) (st' := []) (mem' := (mk x y)) 2 rfl ?_
        exact ih (a2 + (1 : Int32)) x
      · refine mS_steps (pc' := 38) (ls' := [.ref 228, .int a1, .int a2]) (st' := [.int a1, .int (x.1 228 0)]) (mem' := (mk x y)) 3 rfl ?_
        refine mS_call (q := (f_X10_has (x.1 228 0) a1)) 57 2 [.int (x.1 228 0), .int a1] [] rfl rfl rfl ⟨_, _, _, rfl, rfl⟩ (Nat.le_of_ble_eq_true rfl) (Nat.le_of_ble_eq_true rfl) rfl (f_X10_has_snd (x.1 228 0) a1 (mk x y)) ?_
        refine mS_steps (pc' := 41) (ls' := [.ref 228, .int a1, .int a2]) (st' := [.int (f_X10_has (x.1 228 0) a1)]) (mem' := (mk x y)) 0 rfl ?_
        refine mS_if0 rfl (fun _ => ?_) (fun _ => ?_)
        · refine mS_steps (pc' := 22) (ls' := [.ref 228, .int a1, .int (a2 + (1 : Int32))]) (st' := []) (mem' := (mk x y)) 2 rfl ?_
          exact ih (a2 + (1 : Int32)) x
        · refine mS_steps (pc' := 49) (ls' := [.ref 228, .int a1, .int a2]) (st' := [.int a2, .int (x.1 228 0)]) (mem' := (mk x y)) 3 rfl ?_
          refine mS_call (q := (f_X10_has (x.1 228 0) a2)) 57 2 [.int (x.1 228 0), .int a2] [] rfl rfl rfl ⟨_, _, _, rfl, rfl⟩ (Nat.le_of_ble_eq_true rfl) (Nat.le_of_ble_eq_true rfl) rfl (f_X10_has_snd (x.1 228 0) a2 (mk x y)) ?_
          refine mS_steps (pc' := 52) (ls' := [.ref 228, .int a1, .int a2]) (st' := [.int (f_X10_has (x.1 228 0) a2)]) (mem' := (mk x y)) 0 rfl ?_
          refine mS_if0 rfl (fun _ => ?_) (fun _ => ?_)
          · refine mS_steps (pc' := 22) (ls' := [.ref 228, .int a1, .int (a2 + (1 : Int32))]) (st' := []) (mem' := (mk x y)) 2 rfl ?_
            exact ih (a2 + (1 : Int32)) x
          · refine mS_steps (pc' := 61) (ls' := [.ref 228, .int a1, .int a2]) (st' := [.int a1, .ref 233, .int a1, .ref 233]) (mem' := (mk x y)) 4 rfl ?_
            refine mS_ald (b := 0) (n := 8) (z := (x.1 (228 + 5) a1.toNatClampNeg)) rfl (by decide) rfl (by decide) rfl (fun _ => ?_)
            refine mS_steps (pc' := 65) (ls' := [.ref 228, .int a1, .int a2]) (st' := [.int a1, .int a2, .ref 228, .int (x.1 (228 + 5) a1.toNatClampNeg), .int a1, .ref 233]) (mem' := (mk x y)) 3 rfl ?_
            refine mS_bind (fun q2 hq2 => mS_call 115 3 [.ref 228, .int a2, .int a1] [.int (x.1 (228 + 5) a1.toNatClampNeg), .int a1, .ref 233] rfl rfl rfl ⟨_, _, _, rfl, rfl⟩ (Nat.le_of_ble_eq_true rfl) (Nat.le_of_ble_eq_true rfl) hq2 (f_X3_without_228_snd a2 a1 x y) ?_)
            refine mS_steps (pc' := 73) (ls' := [.ref 228, .int a1, .int a2]) (st' := [.int ((x.1 (228 + 5) a1.toNatClampNeg) &&& (q2 ||| ((1 : Int32) <<< (a2 &&& 31)))), .int a1, .ref 233]) (mem' := (mk x y)) 5 rfl ?_
            refine mS_ast0x (n := 8) rfl rfl (by decide) (fun _ => ?_)
            refine mS_letx (fun x3 => ?_)
            refine mS_steps (pc' := 22) (ls' := [.ref 228, .int a1, .int (a2 + (1 : Int32))]) (st' := []) (mem' := (mk x3 y)) 2 rfl ?_
            exact ih (a2 + (1 : Int32)) x3
set_option maxRecDepth 20000 in
set_option maxHeartbeats 2000000 in
theorem f_X3_match_L2_228_snd {fm : Value} {L : Nat} {xs : Nat → Int32} (y : mY) : ∀ (n : Nat) (a1 : Int32) (x : mX), mS fm L xs (fun r : mX => (mU, mk r y)) pg_X3_match 2 [.ref 228, .int a1, mU] [] (mk x y) (f_X3_match_L2 228 n a1 x) := by
  intro n
  induction n with
  | zero => intro a1 x; exact mS_none
  | succ n ih =>
    intro a1 x
    rw [f_X3_match_L2]
    refine mS_steps (pc' := 5) (ls' := [.ref 228, .int a1, mU]) (st' := [.int (8 : Int32), .int a1]) (mem' := (mk x y)) 2 rfl ?_
    refine mS_ic3 rfl (fun _ => ?_) (fun _ => ?_)
    · exact mS_retv ⟨_, _, _, _, _, rfl⟩ rfl
    · refine mS_steps (pc' := 18) (ls' := [.ref 228, .int a1, mU]) (st' := [.int a1, .ref 230, .int a1, .ref 233]) (mem' := (mk x y)) 6 rfl ?_
      refine mS_ald (b := 0) (n := 8) (z := (x.1 (228 + 2) a1.toNatClampNeg)) rfl (by decide) rfl (by decide) rfl (fun _ => ?_)
      refine mS_ast0x (n := 8) rfl rfl (by decide) (fun _ => ?_)
      refine mS_letx (fun x1 => ?_)
      refine mS_steps (pc' := 22) (ls' := [.ref 228, .int a1, .int (0 : Int32)]) (st' := []) (mem' := (mk x1 y)) 2 rfl ?_
      refine f_X3_match_L22_228_snd a1 y _ ?_ mF (0 : Int32) x1
      · intro x4
        refine mS_steps (pc' := 2) (ls' := [.ref 228, .int (a1 + (1 : Int32)), mU]) (st' := []) (mem' := (mk x4 y)) 2 rfl ?_
        exact ih (a1 + (1 : Int32)) x4
set_option maxRecDepth 20000 in
set_option maxHeartbeats 2000000 in
theorem f_X3_match_228_snd {fm : Value} {L : Nat} {xs : Nat → Int32} (x : mX) (y : mY) : mS fm L xs (fun r : mX => (mU, mk r y)) pg_X3_match 0 (m_entry [.ref 228] 3) [] (mk x y) ((f_X3_match 228 x)) := by
  unfold f_X3_match
  refine mS_steps (pc' := 0) (ls' := [.ref 228, mU, mU]) (st' := []) (mem' := (mk x y)) 0 rfl ?_
  refine mS_steps (pc' := 2) (ls' := [.ref 228, .int (0 : Int32), mU]) (st' := []) (mem' := (mk x y)) 2 rfl ?_
  refine f_X3_match_L2_228_snd y mF (0 : Int32) x
set_option maxRecDepth 20000 in
set_option maxHeartbeats 2000000 in
theorem f_X3_match_L22_222_snd {fm : Value} {L : Nat} {xs : Nat → Int32} (a1 : Int32) (y : mY) (k80 : mX → Option mX) (hk80 : ∀ (z0 : mX), mS fm L xs (fun r : mX => (mU, mk r y)) pg_X3_match 80 [.ref 222, .int a1, mU] [] (mk z0 y) (k80 z0)) : ∀ (n : Nat) (a2 : Int32) (x : mX), mS fm L xs (fun r : mX => (mU, mk r y)) pg_X3_match 22 [.ref 222, .int a1, .int a2] [] (mk x y) (f_X3_match_L22 222 a1 n a2 x k80) := by
  intro n
  induction n with
  | zero => intro a2 x; exact mS_none
  | succ n ih =>
    intro a2 x
    rw [f_X3_match_L22]
    refine mS_steps (pc' := 25) (ls' := [.ref 222, .int a1, .int a2]) (st' := [.int (8 : Int32), .int a2]) (mem' := (mk x y)) 2 rfl ?_
    refine mS_ic3 rfl (fun _ => ?_) (fun _ => ?_)
    · refine mS_forget [.ref 222, .int a1, mU] ⟨Or.inr rfl, Or.inr rfl, Or.inl rfl, trivial⟩ ?_
      exact hk80 x
    · refine mS_steps (pc' := 30) (ls' := [.ref 222, .int a1, .int a2]) (st' := [.int a1, .int a2]) (mem' := (mk x y)) 2 rfl ?_
      refine mS_ic0 rfl (fun _ => ?_) (fun _ => ?_)
      · refine mS_steps (pc' := 22) (ls' := [.ref 222, .int a1, .int (a2 + (1 : Int32))]) (st' := []) (mem' := (mk x y)) 2 rfl ?_
        exact ih (a2 + (1 : Int32)) x
      · refine mS_steps (pc' := 38) (ls' := [.ref 222, .int a1, .int a2]) (st' := [.int a1, .int (x.1 222 0)]) (mem' := (mk x y)) 3 rfl ?_
        refine mS_call (q := (f_X10_has (x.1 222 0) a1)) 57 2 [.int (x.1 222 0), .int a1] [] rfl rfl rfl ⟨_, _, _, rfl, rfl⟩ (Nat.le_of_ble_eq_true rfl) (Nat.le_of_ble_eq_true rfl) rfl (f_X10_has_snd (x.1 222 0) a1 (mk x y)) ?_
        refine mS_steps (pc' := 41) (ls' := [.ref 222, .int a1, .int a2]) (st' := [.int (f_X10_has (x.1 222 0) a1)]) (mem' := (mk x y)) 0 rfl ?_
        refine mS_if0 rfl (fun _ => ?_) (fun _ => ?_)
        · refine mS_steps (pc' := 22) (ls' := [.ref 222, .int a1, .int (a2 + (1 : Int32))]) (st' := []) (mem' := (mk x y)) 2 rfl ?_
          exact ih (a2 + (1 : Int32)) x
        · refine mS_steps (pc' := 49) (ls' := [.ref 222, .int a1, .int a2]) (st' := [.int a2, .int (x.1 222 0)]) (mem' := (mk x y)) 3 rfl ?_
          refine mS_call (q := (f_X10_has (x.1 222 0) a2)) 57 2 [.int (x.1 222 0), .int a2] [] rfl rfl rfl ⟨_, _, _, rfl, rfl⟩ (Nat.le_of_ble_eq_true rfl) (Nat.le_of_ble_eq_true rfl) rfl (f_X10_has_snd (x.1 222 0) a2 (mk x y)) ?_
          refine mS_steps (pc' := 52) (ls' := [.ref 222, .int a1, .int a2]) (st' := [.int (f_X10_has (x.1 222 0) a2)]) (mem' := (mk x y)) 0 rfl ?_
          refine mS_if0 rfl (fun _ => ?_) (fun _ => ?_)
          · refine mS_steps (pc' := 22) (ls' := [.ref 222, .int a1, .int (a2 + (1 : Int32))]) (st' := []) (mem' := (mk x y)) 2 rfl ?_
            exact ih (a2 + (1 : Int32)) x
          · refine mS_steps (pc' := 61) (ls' := [.ref 222, .int a1, .int a2]) (st' := [.int a1, .ref 227, .int a1, .ref 227]) (mem' := (mk x y)) 4 rfl ?_
            refine mS_ald (b := 0) (n := 8) (z := (x.1 (222 + 5) a1.toNatClampNeg)) rfl (by decide) rfl (by decide) rfl (fun _ => ?_)
            refine mS_steps (pc' := 65) (ls' := [.ref 222, .int a1, .int a2]) (st' := [.int a1, .int a2, .ref 222, .int (x.1 (222 + 5) a1.toNatClampNeg), .int a1, .ref 227]) (mem' := (mk x y)) 3 rfl ?_
            refine mS_bind (fun q2 hq2 => mS_call 115 3 [.ref 222, .int a2, .int a1] [.int (x.1 (222 + 5) a1.toNatClampNeg), .int a1, .ref 227] rfl rfl rfl ⟨_, _, _, rfl, rfl⟩ (Nat.le_of_ble_eq_true rfl) (Nat.le_of_ble_eq_true rfl) hq2 (f_X3_without_222_snd a2 a1 x y) ?_)
            refine mS_steps (pc' := 73) (ls' := [.ref 222, .int a1, .int a2]) (st' := [.int ((x.1 (222 + 5) a1.toNatClampNeg) &&& (q2 ||| ((1 : Int32) <<< (a2 &&& 31)))), .int a1, .ref 227]) (mem' := (mk x y)) 5 rfl ?_
            refine mS_ast0x (n := 8) rfl rfl (by decide) (fun _ => ?_)
            refine mS_letx (fun x3 => ?_)
            refine mS_steps (pc' := 22) (ls' := [.ref 222, .int a1, .int (a2 + (1 : Int32))]) (st' := []) (mem' := (mk x3 y)) 2 rfl ?_
            exact ih (a2 + (1 : Int32)) x3
set_option maxRecDepth 20000 in
set_option maxHeartbeats 2000000 in
theorem f_X3_match_L2_222_snd {fm : Value} {L : Nat} {xs : Nat → Int32} (y : mY) : ∀ (n : Nat) (a1 : Int32) (x : mX), mS fm L xs (fun r : mX => (mU, mk r y)) pg_X3_match 2 [.ref 222, .int a1, mU] [] (mk x y) (f_X3_match_L2 222 n a1 x) := by
  intro n
  induction n with
  | zero => intro a1 x; exact mS_none
  | succ n ih =>
    intro a1 x
    rw [f_X3_match_L2]
    refine mS_steps (pc' := 5) (ls' := [.ref 222, .int a1, mU]) (st' := [.int (8 : Int32), .int a1]) (mem' := (mk x y)) 2 rfl ?_
    refine mS_ic3 rfl (fun _ => ?_) (fun _ => ?_)
    · exact mS_retv ⟨_, _, _, _, _, rfl⟩ rfl
    · refine mS_steps (pc' := 18) (ls' := [.ref 222, .int a1, mU]) (st' := [.int a1, .ref 224, .int a1, .ref 227]) (mem' := (mk x y)) 6 rfl ?_
      refine mS_ald (b := 0) (n := 8) (z := (x.1 (222 + 2) a1.toNatClampNeg)) rfl (by decide) rfl (by decide) rfl (fun _ => ?_)
      refine mS_ast0x (n := 8) rfl rfl (by decide) (fun _ => ?_)
      refine mS_letx (fun x1 => ?_)
      refine mS_steps (pc' := 22) (ls' := [.ref 222, .int a1, .int (0 : Int32)]) (st' := []) (mem' := (mk x1 y)) 2 rfl ?_
      refine f_X3_match_L22_222_snd a1 y _ ?_ mF (0 : Int32) x1
      · intro x4
        refine mS_steps (pc' := 2) (ls' := [.ref 222, .int (a1 + (1 : Int32)), mU]) (st' := []) (mem' := (mk x4 y)) 2 rfl ?_
        exact ih (a1 + (1 : Int32)) x4
set_option maxRecDepth 20000 in
set_option maxHeartbeats 2000000 in
theorem f_X3_match_222_snd {fm : Value} {L : Nat} {xs : Nat → Int32} (x : mX) (y : mY) : mS fm L xs (fun r : mX => (mU, mk r y)) pg_X3_match 0 (m_entry [.ref 222] 3) [] (mk x y) ((f_X3_match 222 x)) := by
  unfold f_X3_match
  refine mS_steps (pc' := 0) (ls' := [.ref 222, mU, mU]) (st' := []) (mem' := (mk x y)) 0 rfl ?_
  refine mS_steps (pc' := 2) (ls' := [.ref 222, .int (0 : Int32), mU]) (st' := []) (mem' := (mk x y)) 2 rfl ?_
  refine f_X3_match_L2_222_snd y mF (0 : Int32) x
def f_X3_build_L13 (r0 : Nat) : Nat → Int32 → mX → (mX → Option mX) → Option mX
  | 0, _, _, _ => none
  | n + 1, a4, x, k34 => (if (8 : Int32) ≤ a4 then (k34 x) else (if m_in a4 8 = true then (m_let (m_xs x (r0 + 1) a4.toNatClampNeg (0 : Int32)) fun x3 => (f_X3_build_L13 r0 n (a4 + (1 : Int32)) x3 k34)) else none))
def f_X3_build_L37 (r0 : Nat) (a3 : Int32) : Nat → Int32 → mX → Option mX
  | 0, _, _ => none
  | n + 1, a4, x => (if (16 : Int32) ≤ a4 then ((f_X3_divide r0 x).bind fun q5 => ((f_X3_match r0 q5).bind fun q6 => (some q6))) else (if (x.1 14 1) ≤ a4 then (f_X3_build_L37 r0 a3 n (a4 + (1 : Int32)) x) else (if (f_X10_has a3 a4) = 0 then (f_X3_build_L37 r0 a3 n (a4 + (1 : Int32)) x) else (if m_in a4 16 = true then (if m_in a4 16 = true then (if m_in (x.1 15 a4.toNatClampNeg) 8 = true then (if m_in (x.1 15 a4.toNatClampNeg) 8 = true then (m_let (m_xs x (r0 + 1) (x.1 15 a4.toNatClampNeg).toNatClampNeg ((x.1 (r0 + 1) (x.1 15 a4.toNatClampNeg).toNatClampNeg) ||| ((1 : Int32) <<< ((x.1 16 a4.toNatClampNeg) &&& 31)))) fun x7 => (if m_in (x.1 16 a4.toNatClampNeg) 8 = true then (if m_in (x.1 16 a4.toNatClampNeg) 8 = true then (m_let (m_xs x7 (r0 + 1) (x.1 16 a4.toNatClampNeg).toNatClampNeg ((x7.1 (r0 + 1) (x.1 16 a4.toNatClampNeg).toNatClampNeg) ||| ((1 : Int32) <<< ((x.1 15 a4.toNatClampNeg) &&& 31)))) fun x8 => (if m_in (((x.1 15 a4.toNatClampNeg) * (8 : Int32)) + (x.1 16 a4.toNatClampNeg)) 64 = true then (m_let (m_xs x8 (r0 + 3) (((x.1 15 a4.toNatClampNeg) * (8 : Int32)) + (x.1 16 a4.toNatClampNeg)).toNatClampNeg a4) fun x9 => (if m_in (((x.1 16 a4.toNatClampNeg) * (8 : Int32)) + (x.1 15 a4.toNatClampNeg)) 64 = true then (m_let (m_xs x9 (r0 + 3) (((x.1 16 a4.toNatClampNeg) * (8 : Int32)) + (x.1 15 a4.toNatClampNeg)).toNatClampNeg a4) fun x10 => (f_X3_build_L37 r0 a3 n (a4 + (1 : Int32)) x10)) else none)) else none)) else none) else none)) else none) else none) else none) else none))))
def f_X3_build (r0 : Nat) (p2 : Int32) (p3 : Int32) (x : mX) : Option mX := (m_let (m_xs x r0 0 p2) fun x1 => (m_let (m_xs x1 r0 3 p3) fun x2 => (f_X3_build_L13 r0 mF (0 : Int32) x2 (fun x4 => (f_X3_build_L37 r0 p3 mF (0 : Int32) x4)))))
set_option maxRecDepth 20000 in
set_option maxHeartbeats 2000000 in
theorem f_X3_build_L13_228_snd {fm : Value} {L : Nat} {xs : Nat → Int32} (a3 : Int32) (y : mY) (k34 : mX → Option mX) (hk34 : ∀ (z0 : mX), mS fm L xs (fun r : mX => (mU, mk r y)) pg_X3_build 34 [.ref 228, .ref 14, mU, .int a3, mU, mU, mU] [] (mk z0 y) (k34 z0)) : ∀ (n : Nat) (a4 : Int32) (x : mX), mS fm L xs (fun r : mX => (mU, mk r y)) pg_X3_build 13 [.ref 228, .ref 14, mU, .int a3, .int a4, mU, mU] [] (mk x y) (f_X3_build_L13 228 n a4 x k34) := by
  intro n
  induction n with
  | zero => intro a4 x; exact mS_none
  | succ n ih =>
    intro a4 x
    rw [f_X3_build_L13]
    refine mS_steps (pc' := 17) (ls' := [.ref 228, .ref 14, mU, .int a3, .int a4, mU, mU]) (st' := [.int (8 : Int32), .int a4]) (mem' := (mk x y)) 2 rfl ?_
    refine mS_ic3 rfl (fun _ => ?_) (fun _ => ?_)
    · refine mS_forget [.ref 228, .ref 14, mU, .int a3, mU, mU, mU] ⟨Or.inr rfl, Or.inr rfl, Or.inl rfl, Or.inr rfl, Or.inl rfl, Or.inl rfl, Or.inl rfl, trivial⟩ ?_
      exact hk34 x
    · refine mS_steps (pc' := 27) (ls' := [.ref 228, .ref 14, mU, .int a3, .int a4, mU, mU]) (st' := [.int (0 : Int32), .int a4, .ref 229]) (mem' := (mk x y)) 4 rfl ?_
      refine mS_ast0x (n := 8) rfl rfl (by decide) (fun _ => ?_)
      refine mS_letx (fun x3 => ?_)
      refine mS_steps (pc' := 13) (ls' := [.ref 228, .ref 14, mU, .int a3, .int (a4 + (1 : Int32)), mU, mU]) (st' := []) (mem' := (mk x3 y)) 2 rfl ?_
      exact ih (a4 + (1 : Int32)) x3
set_option maxRecDepth 20000 in
set_option maxHeartbeats 2000000 in
theorem f_X3_build_L37_228_snd {fm : Value} {L : Nat} {xs : Nat → Int32} (a3 : Int32) (y : mY) : ∀ (n : Nat) (a4 : Int32) (x : mX), mS fm L xs (fun r : mX => (mU, mk r y)) pg_X3_build 37 [.ref 228, .ref 14, mU, .int a3, .int a4, mU, mU] [] (mk x y) (f_X3_build_L37 228 a3 n a4 x) := by
  intro n
  induction n with
  | zero => intro a4 x; exact mS_none
  | succ n ih =>
    intro a4 x
    rw [f_X3_build_L37]
    refine mS_steps (pc' := 41) (ls' := [.ref 228, .ref 14, mU, .int a3, .int a4, mU, mU]) (st' := [.int (16 : Int32), .int a4]) (mem' := (mk x y)) 2 rfl ?_
    refine mS_ic3 rfl (fun _ => ?_) (fun _ => ?_)
    · refine mS_steps (pc' := 145) (ls' := [.ref 228, .ref 14, mU, .int a3, .int a4, mU, mU]) (st' := [.ref 228]) (mem' := (mk x y)) 1 rfl ?_
      refine mS_bind (fun q5 hq5 => mS_call 114 1 [.ref 228] [] rfl rfl rfl ⟨_, _, _, rfl, rfl⟩ (Nat.le_of_ble_eq_true rfl) (Nat.le_of_ble_eq_true rfl) hq5 (f_X3_divide_228_snd  x y) ?_)
      refine mS_steps (pc' := 149) (ls' := [.ref 228, .ref 14, mU, .int a3, .int a4, mU, mU]) (st' := [.ref 228]) (mem' := (mk q5 y)) 1 rfl ?_
      refine mS_bind (fun q6 hq6 => mS_call 116 1 [.ref 228] [] rfl rfl rfl ⟨_, _, _, rfl, rfl⟩ (Nat.le_of_ble_eq_true rfl) (Nat.le_of_ble_eq_true rfl) hq6 (f_X3_match_228_snd  q5 y) ?_)
      refine mS_steps (pc' := 152) (ls' := [.ref 228, .ref 14, mU, .int a3, .int a4, mU, mU]) (st' := []) (mem' := (mk q6 y)) 0 rfl ?_
      exact mS_retv ⟨_, _, _, _, _, rfl⟩ rfl
    · refine mS_steps (pc' := 50) (ls' := [.ref 228, .ref 14, mU, .int a3, .int a4, mU, mU]) (st' := [.int (x.1 14 1), .int a4]) (mem' := (mk x y)) 3 rfl ?_
      refine mS_ic3 rfl (fun _ => ?_) (fun _ => ?_)
      · refine mS_steps (pc' := 37) (ls' := [.ref 228, .ref 14, mU, .int a3, .int (a4 + (1 : Int32)), mU, mU]) (st' := []) (mem' := (mk x y)) 2 rfl ?_
        exact ih (a4 + (1 : Int32)) x
      · refine mS_steps (pc' := 56) (ls' := [.ref 228, .ref 14, mU, .int a3, .int a4, mU, mU]) (st' := [.int a4, .int a3]) (mem' := (mk x y)) 2 rfl ?_
        refine mS_call (q := (f_X10_has a3 a4)) 57 2 [.int a3, .int a4] [] rfl rfl rfl ⟨_, _, _, rfl, rfl⟩ (Nat.le_of_ble_eq_true rfl) (Nat.le_of_ble_eq_true rfl) rfl (f_X10_has_snd a3 a4 (mk x y)) ?_
        refine mS_steps (pc' := 59) (ls' := [.ref 228, .ref 14, mU, .int a3, .int a4, mU, mU]) (st' := [.int (f_X10_has a3 a4)]) (mem' := (mk x y)) 0 rfl ?_
        refine mS_if0 rfl (fun _ => ?_) (fun _ => ?_)
        · refine mS_steps (pc' := 37) (ls' := [.ref 228, .ref 14, mU, .int a3, .int (a4 + (1 : Int32)), mU, mU]) (st' := []) (mem' := (mk x y)) 2 rfl ?_
          exact ih (a4 + (1 : Int32)) x
        · refine mS_steps (pc' := 68) (ls' := [.ref 228, .ref 14, mU, .int a3, .int a4, mU, mU]) (st' := [.int a4, .ref 15]) (mem' := (mk x y)) 3 rfl ?_
          refine mS_ald (b := 0) (n := 16) (z := (x.1 15 a4.toNatClampNeg)) rfl (by decide) rfl (by decide) rfl (fun _ => ?_)
          refine mS_steps (pc' := 77) (ls' := [.ref 228, .ref 14, mU, .int a3, .int a4, .int (x.1 15 a4.toNatClampNeg), mU]) (st' := [.int a4, .ref 16]) (mem' := (mk x y)) 4 rfl ?_
          refine mS_ald (b := 0) (n := 16) (z := (x.1 16 a4.toNatClampNeg)) rfl (by decide) rfl (by decide) rfl (fun _ => ?_)
          refine mS_steps (pc' := 87) (ls' := [.ref 228, .ref 14, mU, .int a3, .int a4, .int (x.1 15 a4.toNatClampNeg), .int (x.1 16 a4.toNatClampNeg)]) (st' := [.int (x.1 15 a4.toNatClampNeg), .ref 229, .int (x.1 15 a4.toNatClampNeg), .ref 229]) (mem' := (mk x y)) 5 rfl ?_
          refine mS_ald (b := 0) (n := 8) (z := (x.1 (228 + 1) (x.1 15 a4.toNatClampNeg).toNatClampNeg)) rfl (by decide) rfl (by decide) rfl (fun _ => ?_)
          refine mS_steps (pc' := 93) (ls' := [.ref 228, .ref 14, mU, .int a3, .int a4, .int (x.1 15 a4.toNatClampNeg), .int (x.1 16 a4.toNatClampNeg)]) (st' := [.int ((x.1 (228 + 1) (x.1 15 a4.toNatClampNeg).toNatClampNeg) ||| ((1 : Int32) <<< ((x.1 16 a4.toNatClampNeg) &&& 31))), .int (x.1 15 a4.toNatClampNeg), .ref 229]) (mem' := (mk x y)) 4 rfl ?_
          refine mS_ast0x (n := 8) rfl rfl (by decide) (fun _ => ?_)
          refine mS_letx (fun x7 => ?_)
          refine mS_steps (pc' := 101) (ls' := [.ref 228, .ref 14, mU, .int a3, .int a4, .int (x.1 15 a4.toNatClampNeg), .int (x.1 16 a4.toNatClampNeg)]) (st' := [.int (x.1 16 a4.toNatClampNeg), .ref 229, .int (x.1 16 a4.toNatClampNeg), .ref 229]) (mem' := (mk x7 y)) 4 rfl ?_
          refine mS_ald (b := 0) (n := 8) (z := (x7.1 (228 + 1) (x.1 16 a4.toNatClampNeg).toNatClampNeg)) rfl (by decide) rfl (by decide) rfl (fun _ => ?_)
          refine mS_steps (pc' := 107) (ls' := [.ref 228, .ref 14, mU, .int a3, .int a4, .int (x.1 15 a4.toNatClampNeg), .int (x.1 16 a4.toNatClampNeg)]) (st' := [.int ((x7.1 (228 + 1) (x.1 16 a4.toNatClampNeg).toNatClampNeg) ||| ((1 : Int32) <<< ((x.1 15 a4.toNatClampNeg) &&& 31))), .int (x.1 16 a4.toNatClampNeg), .ref 229]) (mem' := (mk x7 y)) 4 rfl ?_
          refine mS_ast0x (n := 8) rfl rfl (by decide) (fun _ => ?_)
          refine mS_letx (fun x8 => ?_)
          refine mS_steps (pc' := 122) (ls' := [.ref 228, .ref 14, mU, .int a3, .int a4, .int (x.1 15 a4.toNatClampNeg), .int (x.1 16 a4.toNatClampNeg)]) (st' := [.int a4, .int (((x.1 15 a4.toNatClampNeg) * (8 : Int32)) + (x.1 16 a4.toNatClampNeg)), .ref 231]) (mem' := (mk x8 y)) 8 rfl ?_
          refine mS_ast0x (n := 64) rfl rfl (by decide) (fun _ => ?_)
          refine mS_letx (fun x9 => ?_)
          refine mS_steps (pc' := 137) (ls' := [.ref 228, .ref 14, mU, .int a3, .int a4, .int (x.1 15 a4.toNatClampNeg), .int (x.1 16 a4.toNatClampNeg)]) (st' := [.int a4, .int (((x.1 16 a4.toNatClampNeg) * (8 : Int32)) + (x.1 15 a4.toNatClampNeg)), .ref 231]) (mem' := (mk x9 y)) 8 rfl ?_
          refine mS_ast0x (n := 64) rfl rfl (by decide) (fun _ => ?_)
          refine mS_letx (fun x10 => ?_)
          refine mS_steps (pc' := 37) (ls' := [.ref 228, .ref 14, mU, .int a3, .int (a4 + (1 : Int32)), .int (x.1 15 a4.toNatClampNeg), .int (x.1 16 a4.toNatClampNeg)]) (st' := []) (mem' := (mk x10 y)) 2 rfl ?_
          refine mS_forget [.ref 228, .ref 14, mU, .int a3, .int (a4 + (1 : Int32)), mU, mU] ⟨Or.inr rfl, Or.inr rfl, Or.inl rfl, Or.inr rfl, Or.inr rfl, Or.inl rfl, Or.inl rfl, trivial⟩ ?_
          exact ih (a4 + (1 : Int32)) x10
set_option maxRecDepth 20000 in
set_option maxHeartbeats 2000000 in
theorem f_X3_build_228_snd {fm : Value} {L : Nat} {xs : Nat → Int32} (p2 : Int32) (p3 : Int32) (x : mX) (y : mY) : mS fm L xs (fun r : mX => (mU, mk r y)) pg_X3_build 0 (m_entry [.ref 228, .ref 14, .int p2, .int p3] 7) [] (mk x y) ((f_X3_build 228 p2 p3 x)) := by
  unfold f_X3_build
  refine mS_steps (pc' := 0) (ls' := [.ref 228, .ref 14, .int p2, .int p3, mU, mU, mU]) (st' := []) (mem' := (mk x y)) 0 rfl ?_
  refine mS_steps (pc' := 2) (ls' := [.ref 228, .ref 14, .int p2, .int p3, mU, mU, mU]) (st' := [.int p2, .ref 228]) (mem' := (mk x y)) 2 rfl ?_
  refine mS_putx rfl rfl (by decide) rfl ?_
  refine mS_letx (fun x1 => ?_)
  refine mS_steps (pc' := 7) (ls' := [.ref 228, .ref 14, .int p2, .int p3, mU, mU, mU]) (st' := [.int p3, .ref 228]) (mem' := (mk x1 y)) 2 rfl ?_
  refine mS_putx rfl rfl (by decide) rfl ?_
  refine mS_letx (fun x2 => ?_)
  refine mS_steps (pc' := 13) (ls' := [.ref 228, .ref 14, .int p2, .int p3, .int (0 : Int32), mU, mU]) (st' := []) (mem' := (mk x2 y)) 2 rfl ?_
  refine mS_forget [.ref 228, .ref 14, mU, .int p3, .int (0 : Int32), mU, mU] ⟨Or.inr rfl, Or.inr rfl, Or.inl rfl, Or.inr rfl, Or.inr rfl, Or.inl rfl, Or.inl rfl, trivial⟩ ?_
  refine f_X3_build_L13_228_snd p3 y _ ?_ mF (0 : Int32) x2
  · intro x4
    refine mS_steps (pc' := 37) (ls' := [.ref 228, .ref 14, mU, .int p3, .int (0 : Int32), mU, mU]) (st' := []) (mem' := (mk x4 y)) 2 rfl ?_
    refine f_X3_build_L37_228_snd p3 y mF (0 : Int32) x4
set_option maxRecDepth 20000 in
set_option maxHeartbeats 2000000 in
theorem f_X3_build_L13_222_snd {fm : Value} {L : Nat} {xs : Nat → Int32} (a3 : Int32) (y : mY) (k34 : mX → Option mX) (hk34 : ∀ (z0 : mX), mS fm L xs (fun r : mX => (mU, mk r y)) pg_X3_build 34 [.ref 222, .ref 14, mU, .int a3, mU, mU, mU] [] (mk z0 y) (k34 z0)) : ∀ (n : Nat) (a4 : Int32) (x : mX), mS fm L xs (fun r : mX => (mU, mk r y)) pg_X3_build 13 [.ref 222, .ref 14, mU, .int a3, .int a4, mU, mU] [] (mk x y) (f_X3_build_L13 222 n a4 x k34) := by
  intro n
  induction n with
  | zero => intro a4 x; exact mS_none
  | succ n ih =>
    intro a4 x
    rw [f_X3_build_L13]
    refine mS_steps (pc' := 17) (ls' := [.ref 222, .ref 14, mU, .int a3, .int a4, mU, mU]) (st' := [.int (8 : Int32), .int a4]) (mem' := (mk x y)) 2 rfl ?_
    refine mS_ic3 rfl (fun _ => ?_) (fun _ => ?_)
    · refine mS_forget [.ref 222, .ref 14, mU, .int a3, mU, mU, mU] ⟨Or.inr rfl, Or.inr rfl, Or.inl rfl, Or.inr rfl, Or.inl rfl, Or.inl rfl, Or.inl rfl, trivial⟩ ?_
      exact hk34 x
    · refine mS_steps (pc' := 27) (ls' := [.ref 222, .ref 14, mU, .int a3, .int a4, mU, mU]) (st' := [.int (0 : Int32), .int a4, .ref 223]) (mem' := (mk x y)) 4 rfl ?_
      refine mS_ast0x (n := 8) rfl rfl (by decide) (fun _ => ?_)
      refine mS_letx (fun x3 => ?_)
      refine mS_steps (pc' := 13) (ls' := [.ref 222, .ref 14, mU, .int a3, .int (a4 + (1 : Int32)), mU, mU]) (st' := []) (mem' := (mk x3 y)) 2 rfl ?_
      exact ih (a4 + (1 : Int32)) x3
set_option maxRecDepth 20000 in
set_option maxHeartbeats 2000000 in
theorem f_X3_build_L37_222_snd {fm : Value} {L : Nat} {xs : Nat → Int32} (a3 : Int32) (y : mY) : ∀ (n : Nat) (a4 : Int32) (x : mX), mS fm L xs (fun r : mX => (mU, mk r y)) pg_X3_build 37 [.ref 222, .ref 14, mU, .int a3, .int a4, mU, mU] [] (mk x y) (f_X3_build_L37 222 a3 n a4 x) := by
  intro n
  induction n with
  | zero => intro a4 x; exact mS_none
  | succ n ih =>
    intro a4 x
    rw [f_X3_build_L37]
    refine mS_steps (pc' := 41) (ls' := [.ref 222, .ref 14, mU, .int a3, .int a4, mU, mU]) (st' := [.int (16 : Int32), .int a4]) (mem' := (mk x y)) 2 rfl ?_
    refine mS_ic3 rfl (fun _ => ?_) (fun _ => ?_)
    · refine mS_steps (pc' := 145) (ls' := [.ref 222, .ref 14, mU, .int a3, .int a4, mU, mU]) (st' := [.ref 222]) (mem' := (mk x y)) 1 rfl ?_
      refine mS_bind (fun q5 hq5 => mS_call 114 1 [.ref 222] [] rfl rfl rfl ⟨_, _, _, rfl, rfl⟩ (Nat.le_of_ble_eq_true rfl) (Nat.le_of_ble_eq_true rfl) hq5 (f_X3_divide_222_snd  x y) ?_)
      refine mS_steps (pc' := 149) (ls' := [.ref 222, .ref 14, mU, .int a3, .int a4, mU, mU]) (st' := [.ref 222]) (mem' := (mk q5 y)) 1 rfl ?_
      refine mS_bind (fun q6 hq6 => mS_call 116 1 [.ref 222] [] rfl rfl rfl ⟨_, _, _, rfl, rfl⟩ (Nat.le_of_ble_eq_true rfl) (Nat.le_of_ble_eq_true rfl) hq6 (f_X3_match_222_snd  q5 y) ?_)
      refine mS_steps (pc' := 152) (ls' := [.ref 222, .ref 14, mU, .int a3, .int a4, mU, mU]) (st' := []) (mem' := (mk q6 y)) 0 rfl ?_
      exact mS_retv ⟨_, _, _, _, _, rfl⟩ rfl
    · refine mS_steps (pc' := 50) (ls' := [.ref 222, .ref 14, mU, .int a3, .int a4, mU, mU]) (st' := [.int (x.1 14 1), .int a4]) (mem' := (mk x y)) 3 rfl ?_
      refine mS_ic3 rfl (fun _ => ?_) (fun _ => ?_)
      · refine mS_steps (pc' := 37) (ls' := [.ref 222, .ref 14, mU, .int a3, .int (a4 + (1 : Int32)), mU, mU]) (st' := []) (mem' := (mk x y)) 2 rfl ?_
        exact ih (a4 + (1 : Int32)) x
      · refine mS_steps (pc' := 56) (ls' := [.ref 222, .ref 14, mU, .int a3, .int a4, mU, mU]) (st' := [.int a4, .int a3]) (mem' := (mk x y)) 2 rfl ?_
        refine mS_call (q := (f_X10_has a3 a4)) 57 2 [.int a3, .int a4] [] rfl rfl rfl ⟨_, _, _, rfl, rfl⟩ (Nat.le_of_ble_eq_true rfl) (Nat.le_of_ble_eq_true rfl) rfl (f_X10_has_snd a3 a4 (mk x y)) ?_
        refine mS_steps (pc' := 59) (ls' := [.ref 222, .ref 14, mU, .int a3, .int a4, mU, mU]) (st' := [.int (f_X10_has a3 a4)]) (mem' := (mk x y)) 0 rfl ?_
        refine mS_if0 rfl (fun _ => ?_) (fun _ => ?_)
        · refine mS_steps (pc' := 37) (ls' := [.ref 222, .ref 14, mU, .int a3, .int (a4 + (1 : Int32)), mU, mU]) (st' := []) (mem' := (mk x y)) 2 rfl ?_
          exact ih (a4 + (1 : Int32)) x
        · refine mS_steps (pc' := 68) (ls' := [.ref 222, .ref 14, mU, .int a3, .int a4, mU, mU]) (st' := [.int a4, .ref 15]) (mem' := (mk x y)) 3 rfl ?_
          refine mS_ald (b := 0) (n := 16) (z := (x.1 15 a4.toNatClampNeg)) rfl (by decide) rfl (by decide) rfl (fun _ => ?_)
          refine mS_steps (pc' := 77) (ls' := [.ref 222, .ref 14, mU, .int a3, .int a4, .int (x.1 15 a4.toNatClampNeg), mU]) (st' := [.int a4, .ref 16]) (mem' := (mk x y)) 4 rfl ?_
          refine mS_ald (b := 0) (n := 16) (z := (x.1 16 a4.toNatClampNeg)) rfl (by decide) rfl (by decide) rfl (fun _ => ?_)
          refine mS_steps (pc' := 87) (ls' := [.ref 222, .ref 14, mU, .int a3, .int a4, .int (x.1 15 a4.toNatClampNeg), .int (x.1 16 a4.toNatClampNeg)]) (st' := [.int (x.1 15 a4.toNatClampNeg), .ref 223, .int (x.1 15 a4.toNatClampNeg), .ref 223]) (mem' := (mk x y)) 5 rfl ?_
          refine mS_ald (b := 0) (n := 8) (z := (x.1 (222 + 1) (x.1 15 a4.toNatClampNeg).toNatClampNeg)) rfl (by decide) rfl (by decide) rfl (fun _ => ?_)
          refine mS_steps (pc' := 93) (ls' := [.ref 222, .ref 14, mU, .int a3, .int a4, .int (x.1 15 a4.toNatClampNeg), .int (x.1 16 a4.toNatClampNeg)]) (st' := [.int ((x.1 (222 + 1) (x.1 15 a4.toNatClampNeg).toNatClampNeg) ||| ((1 : Int32) <<< ((x.1 16 a4.toNatClampNeg) &&& 31))), .int (x.1 15 a4.toNatClampNeg), .ref 223]) (mem' := (mk x y)) 4 rfl ?_
          refine mS_ast0x (n := 8) rfl rfl (by decide) (fun _ => ?_)
          refine mS_letx (fun x7 => ?_)
          refine mS_steps (pc' := 101) (ls' := [.ref 222, .ref 14, mU, .int a3, .int a4, .int (x.1 15 a4.toNatClampNeg), .int (x.1 16 a4.toNatClampNeg)]) (st' := [.int (x.1 16 a4.toNatClampNeg), .ref 223, .int (x.1 16 a4.toNatClampNeg), .ref 223]) (mem' := (mk x7 y)) 4 rfl ?_
          refine mS_ald (b := 0) (n := 8) (z := (x7.1 (222 + 1) (x.1 16 a4.toNatClampNeg).toNatClampNeg)) rfl (by decide) rfl (by decide) rfl (fun _ => ?_)
          refine mS_steps (pc' := 107) (ls' := [.ref 222, .ref 14, mU, .int a3, .int a4, .int (x.1 15 a4.toNatClampNeg), .int (x.1 16 a4.toNatClampNeg)]) (st' := [.int ((x7.1 (222 + 1) (x.1 16 a4.toNatClampNeg).toNatClampNeg) ||| ((1 : Int32) <<< ((x.1 15 a4.toNatClampNeg) &&& 31))), .int (x.1 16 a4.toNatClampNeg), .ref 223]) (mem' := (mk x7 y)) 4 rfl ?_
          refine mS_ast0x (n := 8) rfl rfl (by decide) (fun _ => ?_)
          refine mS_letx (fun x8 => ?_)
          refine mS_steps (pc' := 122) (ls' := [.ref 222, .ref 14, mU, .int a3, .int a4, .int (x.1 15 a4.toNatClampNeg), .int (x.1 16 a4.toNatClampNeg)]) (st' := [.int a4, .int (((x.1 15 a4.toNatClampNeg) * (8 : Int32)) + (x.1 16 a4.toNatClampNeg)), .ref 225]) (mem' := (mk x8 y)) 8 rfl ?_
          refine mS_ast0x (n := 64) rfl rfl (by decide) (fun _ => ?_)
          refine mS_letx (fun x9 => ?_)
          refine mS_steps (pc' := 137) (ls' := [.ref 222, .ref 14, mU, .int a3, .int a4, .int (x.1 15 a4.toNatClampNeg), .int (x.1 16 a4.toNatClampNeg)]) (st' := [.int a4, .int (((x.1 16 a4.toNatClampNeg) * (8 : Int32)) + (x.1 15 a4.toNatClampNeg)), .ref 225]) (mem' := (mk x9 y)) 8 rfl ?_
          refine mS_ast0x (n := 64) rfl rfl (by decide) (fun _ => ?_)
          refine mS_letx (fun x10 => ?_)
          refine mS_steps (pc' := 37) (ls' := [.ref 222, .ref 14, mU, .int a3, .int (a4 + (1 : Int32)), .int (x.1 15 a4.toNatClampNeg), .int (x.1 16 a4.toNatClampNeg)]) (st' := []) (mem' := (mk x10 y)) 2 rfl ?_
          refine mS_forget [.ref 222, .ref 14, mU, .int a3, .int (a4 + (1 : Int32)), mU, mU] ⟨Or.inr rfl, Or.inr rfl, Or.inl rfl, Or.inr rfl, Or.inr rfl, Or.inl rfl, Or.inl rfl, trivial⟩ ?_
          exact ih (a4 + (1 : Int32)) x10
set_option maxRecDepth 20000 in
set_option maxHeartbeats 2000000 in
theorem f_X3_build_222_snd {fm : Value} {L : Nat} {xs : Nat → Int32} (p2 : Int32) (p3 : Int32) (x : mX) (y : mY) : mS fm L xs (fun r : mX => (mU, mk r y)) pg_X3_build 0 (m_entry [.ref 222, .ref 14, .int p2, .int p3] 7) [] (mk x y) ((f_X3_build 222 p2 p3 x)) := by
  unfold f_X3_build
  refine mS_steps (pc' := 0) (ls' := [.ref 222, .ref 14, .int p2, .int p3, mU, mU, mU]) (st' := []) (mem' := (mk x y)) 0 rfl ?_
  refine mS_steps (pc' := 2) (ls' := [.ref 222, .ref 14, .int p2, .int p3, mU, mU, mU]) (st' := [.int p2, .ref 222]) (mem' := (mk x y)) 2 rfl ?_
  refine mS_putx rfl rfl (by decide) rfl ?_
  refine mS_letx (fun x1 => ?_)
  refine mS_steps (pc' := 7) (ls' := [.ref 222, .ref 14, .int p2, .int p3, mU, mU, mU]) (st' := [.int p3, .ref 222]) (mem' := (mk x1 y)) 2 rfl ?_
  refine mS_putx rfl rfl (by decide) rfl ?_
  refine mS_letx (fun x2 => ?_)
  refine mS_steps (pc' := 13) (ls' := [.ref 222, .ref 14, .int p2, .int p3, .int (0 : Int32), mU, mU]) (st' := []) (mem' := (mk x2 y)) 2 rfl ?_
  refine mS_forget [.ref 222, .ref 14, mU, .int p3, .int (0 : Int32), mU, mU] ⟨Or.inr rfl, Or.inr rfl, Or.inl rfl, Or.inr rfl, Or.inr rfl, Or.inl rfl, Or.inl rfl, trivial⟩ ?_
  refine f_X3_build_L13_222_snd p3 y _ ?_ mF (0 : Int32) x2
  · intro x4
    refine mS_steps (pc' := 37) (ls' := [.ref 222, .ref 14, mU, .int p3, .int (0 : Int32), mU, mU]) (st' := []) (mem' := (mk x4 y)) 2 rfl ?_
    refine f_X3_build_L37_222_snd p3 y mF (0 : Int32) x4
