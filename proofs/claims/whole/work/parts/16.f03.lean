/-! ===== methods as functions (written by wip/whole/gen/emitall.py) ===== -/
def f_X3_divide_L18 (r0 : Nat) : Nat → Int32 → mX → Option mX
  | 0, _, _ => none
  | n + 1, a1, x => (if (8 : Int32) ≤ a1 then (some x) else ((f_X10_parts (r0 + 1) ((x.1 r0 0) &&& (((1 : Int32) <<< (a1 &&& 31)) ^^^ (-1 : Int32))) (r0 + 4) (a1 * (8 : Int32)) x).bind fun q2 => (f_X3_divide_L18 r0 n (a1 + (1 : Int32)) q2)))
def f_X3_divide (r0 : Nat) (x : mX) : Option mX := ((f_X10_parts (r0 + 1) (x.1 r0 0) (r0 + 2) (0 : Int32) x).bind fun q1 => (f_X3_divide_L18 r0 mF (0 : Int32) q1))
set_option maxRecDepth 20000 in
set_option maxHeartbeats 2000000 in
theorem f_X3_divide_L18_228_snd {fm : Value} {L : Nat} {xs : Nat → Int32} (y : mY) : ∀ (n : Nat) (a1 : Int32) (x : mX), mS fm L xs (fun r : mX => (mU, mk r y)) pg_X3_divide 18 [.ref 228, .int a1] [] (mk x y) (f_X3_divide_L18 228 n a1 x) := by
  intro n
  induction n with
  | zero => intro a1 x; exact mS_none
  | succ n ih =>
    intro a1 x
    rw [f_X3_divide_L18]
    refine mS_steps (pc' := 21) (ls' := [.ref 228, .int a1]) (st' := [.int (8 : Int32), .int a1]) (mem' := (mk x y)) 2 rfl ?_
    refine mS_ic3 rfl (fun _ => ?_) (fun _ => ?_)
    · exact mS_retv ⟨_, _, _, _, _, rfl⟩ rfl
    · refine mS_steps (pc' := 46) (ls' := [.ref 228, .int a1]) (st' := [.int (a1 * (8 : Int32)), .ref 232, .int ((x.1 228 0) &&& (((1 : Int32) <<< (a1 &&& 31)) ^^^ (-1 : Int32))), .ref 229]) (mem' := (mk x y)) 15 rfl ?_
      refine mS_bind (fun q2 hq2 => mS_call 113 4 [.ref 229, .int ((x.1 228 0) &&& (((1 : Int32) <<< (a1 &&& 31)) ^^^ (-1 : Int32))), .ref 232, .int (a1 * (8 : Int32))] [] rfl rfl rfl ⟨_, _, _, rfl, rfl⟩ (Nat.le_of_ble_eq_true rfl) (Nat.le_of_ble_eq_true rfl) hq2 (f_X10_parts_229_232_snd ((x.1 228 0) &&& (((1 : Int32) <<< (a1 &&& 31)) ^^^ (-1 : Int32))) (a1 * (8 : Int32)) x y) ?_)
      refine mS_steps (pc' := 18) (ls' := [.ref 228, .int (a1 + (1 : Int32))]) (st' := []) (mem' := (mk q2 y)) 2 rfl ?_
      exact ih (a1 + (1 : Int32)) q2
set_option maxRecDepth 20000 in
set_option maxHeartbeats 2000000 in
theorem f_X3_divide_228_snd {fm : Value} {L : Nat} {xs : Nat → Int32} (x : mX) (y : mY) : mS fm L xs (fun r : mX => (mU, mk r y)) pg_X3_divide 0 (m_entry [.ref 228] 2) [] (mk x y) ((f_X3_divide 228 x)) := by
  unfold f_X3_divide
  refine mS_steps (pc' := 0) (ls' := [.ref 228, mU]) (st' := []) (mem' := (mk x y)) 0 rfl ?_
  refine mS_steps (pc' := 13) (ls' := [.ref 228, mU]) (st' := [.int (0 : Int32), .ref 230, .int (x.1 228 0), .ref 229]) (mem' := (mk x y)) 7 rfl ?_
  refine mS_bind (fun q1 hq1 => mS_call 113 4 [.ref 229, .int (x.1 228 0), .ref 230, .int (0 : Int32)] [] rfl rfl rfl ⟨_, _, _, rfl, rfl⟩ (Nat.le_of_ble_eq_true rfl) (Nat.le_of_ble_eq_true rfl) hq1 (f_X10_parts_229_230_snd (x.1 228 0) (0 : Int32) x y) ?_)
  refine mS_steps (pc' := 18) (ls' := [.ref 228, .int (0 : Int32)]) (st' := []) (mem' := (mk q1 y)) 2 rfl ?_
  refine f_X3_divide_L18_228_snd y mF (0 : Int32) q1
set_option maxRecDepth 20000 in
set_option maxHeartbeats 2000000 in
theorem f_X3_divide_L18_222_snd {fm : Value} {L : Nat} {xs : Nat → Int32} (y : mY) : ∀ (n : Nat) (a1 : Int32) (x : mX), mS fm L xs (fun r : mX => (mU, mk r y)) pg_X3_divide 18 [.ref 222, .int a1] [] (mk x y) (f_X3_divide_L18 222 n a1 x) := by
  intro n
  induction n with
  | zero => intro a1 x; exact mS_none
  | succ n ih =>
    intro a1 x
    rw [f_X3_divide_L18]
    refine mS_steps (pc' := 21) (ls' := [.ref 222, .int a1]) (st' := [.int (8 : Int32), .int a1]) (mem' := (mk x y)) 2 rfl ?_
    refine mS_ic3 rfl (fun _ => ?_) (fun _ => ?_)
    · exact mS_retv ⟨_, _, _, _, _, rfl⟩ rfl
    · refine mS_steps (pc' := 46) (ls' := [.ref 222, .int a1]) (st' := [.int (a1 * (8 : Int32)), .ref 226, .int ((x.1 222 0) &&& (((1 : Int32) <<< (a1 &&& 31)) ^^^ (-1 : Int32))), .ref 223]) (mem' := (mk x y)) 15 rfl ?_
      refine mS_bind (fun q2 hq2 => mS_call 113 4 [.ref 223, .int ((x.1 222 0) &&& (((1 : Int32) <<< (a1 &&& 31)) ^^^ (-1 : Int32))), .ref 226, .int (a1 * (8 : Int32))] [] rfl rfl rfl ⟨_, _, _, rfl, rfl⟩ (Nat.le_of_ble_eq_true rfl) (Nat.le_of_ble_eq_true rfl) hq2 (f_X10_parts_223_226_snd ((x.1 222 0) &&& (((1 : Int32) <<< (a1 &&& 31)) ^^^ (-1 : Int32))) (a1 * (8 : Int32)) x y) ?_)
      refine mS_steps (pc' := 18) (ls' := [.ref 222, .int (a1 + (1 : Int32))]) (st' := []) (mem' := (mk q2 y)) 2 rfl ?_
      exact ih (a1 + (1 : Int32)) q2
set_option maxRecDepth 20000 in
set_option maxHeartbeats 2000000 in
theorem f_X3_divide_222_snd {fm : Value} {L : Nat} {xs : Nat → Int32} (x : mX) (y : mY) : mS fm L xs (fun r : mX => (mU, mk r y)) pg_X3_divide 0 (m_entry [.ref 222] 2) [] (mk x y) ((f_X3_divide 222 x)) := by
  unfold f_X3_divide
  refine mS_steps (pc' := 0) (ls' := [.ref 222, mU]) (st' := []) (mem' := (mk x y)) 0 rfl ?_
  refine mS_steps (pc' := 13) (ls' := [.ref 222, mU]) (st' := [.int (0 : Int32), .ref 224, .int (x.1 222 0), .ref 223]) (mem' := (mk x y)) 7 rfl ?_
  refine mS_bind (fun q1 hq1 => mS_call 113 4 [.ref 223, .int (x.1 222 0), .ref 224, .int (0 : Int32)] [] rfl rfl rfl ⟨_, _, _, rfl, rfl⟩ (Nat.le_of_ble_eq_true rfl) (Nat.le_of_ble_eq_true rfl) hq1 (f_X10_parts_223_224_snd (x.1 222 0) (0 : Int32) x y) ?_)
  refine mS_steps (pc' := 18) (ls' := [.ref 222, .int (0 : Int32)]) (st' := []) (mem' := (mk q1 y)) 2 rfl ?_
  refine f_X3_divide_L18_222_snd y mF (0 : Int32) q1
set_option maxRecDepth 20000 in
set_option maxHeartbeats 2000000 in
theorem f_X3_divide_L18_258_snd {fm : Value} {L : Nat} {xs : Nat → Int32} (y : mY) : ∀ (n : Nat) (a1 : Int32) (x : mX), mS fm L xs (fun r : mX => (mU, mk r y)) pg_X3_divide 18 [.ref 258, .int a1] [] (mk x y) (f_X3_divide_L18 258 n a1 x) := by
  intro n
  induction n with
  | zero => intro a1 x; exact mS_none
  | succ n ih =>
    intro a1 x
    rw [f_X3_divide_L18]
    refine mS_steps (pc' := 21) (ls' := [.ref 258, .int a1]) (st' := [.int (8 : Int32), .int a1]) (mem' := (mk x y)) 2 rfl ?_
    refine mS_ic3 rfl (fun _ => ?_) (fun _ => ?_)
    · exact mS_retv ⟨_, _, _, _, _, rfl⟩ rfl
    · refine mS_steps (pc' := 46) (ls' := [.ref 258, .int a1]) (st' := [.int (a1 * (8 : Int32)), .ref 262, .int ((x.1 258 0) &&& (((1 : Int32) <<< (a1 &&& 31)) ^^^ (-1 : Int32))), .ref 259]) (mem' := (mk x y)) 15 rfl ?_
      refine mS_bind (fun q2 hq2 => mS_call 113 4 [.ref 259, .int ((x.1 258 0) &&& (((1 : Int32) <<< (a1 &&& 31)) ^^^ (-1 : Int32))), .ref 262, .int (a1 * (8 : Int32))] [] rfl rfl rfl ⟨_, _, _, rfl, rfl⟩ (Nat.le_of_ble_eq_true rfl) (Nat.le_of_ble_eq_true rfl) hq2 (f_X10_parts_259_262_snd ((x.1 258 0) &&& (((1 : Int32) <<< (a1 &&& 31)) ^^^ (-1 : Int32))) (a1 * (8 : Int32)) x y) ?_)
      refine mS_steps (pc' := 18) (ls' := [.ref 258, .int (a1 + (1 : Int32))]) (st' := []) (mem' := (mk q2 y)) 2 rfl ?_
      exact ih (a1 + (1 : Int32)) q2
set_option maxRecDepth 20000 in
set_option maxHeartbeats 2000000 in
theorem f_X3_divide_258_snd {fm : Value} {L : Nat} {xs : Nat → Int32} (x : mX) (y : mY) : mS fm L xs (fun r : mX => (mU, mk r y)) pg_X3_divide 0 (m_entry [.ref 258] 2) [] (mk x y) ((f_X3_divide 258 x)) := by
  unfold f_X3_divide
  refine mS_steps (pc' := 0) (ls' := [.ref 258, mU]) (st' := []) (mem' := (mk x y)) 0 rfl ?_
  refine mS_steps (pc' := 13) (ls' := [.ref 258, mU]) (st' := [.int (0 : Int32), .ref 260, .int (x.1 258 0), .ref 259]) (mem' := (mk x y)) 7 rfl ?_
  refine mS_bind (fun q1 hq1 => mS_call 113 4 [.ref 259, .int (x.1 258 0), .ref 260, .int (0 : Int32)] [] rfl rfl rfl ⟨_, _, _, rfl, rfl⟩ (Nat.le_of_ble_eq_true rfl) (Nat.le_of_ble_eq_true rfl) hq1 (f_X10_parts_259_260_snd (x.1 258 0) (0 : Int32) x y) ?_)
  refine mS_steps (pc' := 18) (ls' := [.ref 258, .int (0 : Int32)]) (st' := []) (mem' := (mk q1 y)) 2 rfl ?_
  refine f_X3_divide_L18_258_snd y mF (0 : Int32) q1
def f_X3_without (r0 : Nat) (p1 : Int32) (p2 : Int32) (x : mX) : Option Int32 := (if m_in ((p1 * (8 : Int32)) + p2) 64 = true then (some (x.1 (r0 + 4) ((p1 * (8 : Int32)) + p2).toNatClampNeg)) else none)
set_option maxRecDepth 20000 in
set_option maxHeartbeats 2000000 in
theorem f_X3_without_228_snd {fm : Value} {L : Nat} {xs : Nat → Int32} (p1 : Int32) (p2 : Int32) (x : mX) (y : mY) : mS fm L xs (fun r : Int32 => (.int r, (mk x y))) pg_X3_without 0 (m_entry [.ref 228, .int p1, .int p2] 3) [] (mk x y) ((f_X3_without 228 p1 p2 x)) := by
  unfold f_X3_without
  refine mS_steps (pc' := 0) (ls' := [.ref 228, .int p1, .int p2]) (st' := []) (mem' := (mk x y)) 0 rfl ?_
  refine mS_steps (pc' := 10) (ls' := [.ref 228, .int p1, .int p2]) (st' := [.int ((p1 * (8 : Int32)) + p2), .ref 232]) (mem' := (mk x y)) 7 rfl ?_
  refine mS_ald (b := 0) (n := 64) (z := (x.1 (228 + 4) ((p1 * (8 : Int32)) + p2).toNatClampNeg)) rfl (by decide) rfl (by decide) rfl (fun _ => ?_)
  exact mS_reti ⟨_, _, _, _, _, rfl, rfl⟩ rfl
set_option maxRecDepth 20000 in
set_option maxHeartbeats 2000000 in
theorem f_X3_without_222_snd {fm : Value} {L : Nat} {xs : Nat → Int32} (p1 : Int32) (p2 : Int32) (x : mX) (y : mY) : mS fm L xs (fun r : Int32 => (.int r, (mk x y))) pg_X3_without 0 (m_entry [.ref 222, .int p1, .int p2] 3) [] (mk x y) ((f_X3_without 222 p1 p2 x)) := by
  unfold f_X3_without
  refine mS_steps (pc' := 0) (ls' := [.ref 222, .int p1, .int p2]) (st' := []) (mem' := (mk x y)) 0 rfl ?_
  refine mS_steps (pc' := 10) (ls' := [.ref 222, .int p1, .int p2]) (st' := [.int ((p1 * (8 : Int32)) + p2), .ref 226]) (mem' := (mk x y)) 7 rfl ?_
  refine mS_ald (b := 0) (n := 64) (z := (x.1 (222 + 4) ((p1 * (8 : Int32)) + p2).toNatClampNeg)) rfl (by decide) rfl (by decide) rfl (fun _ => ?_)
  exact mS_reti ⟨_, _, _, _, _, rfl, rfl⟩ rfl
set_option maxRecDepth 20000 in
set_option maxHeartbeats 2000000 in
theorem f_X3_without_258_snd {fm : Value} {L : Nat} {xs : Nat → Int32} (p1 : Int32) (p2 : Int32) (x : mX) (y : mY) : mS fm L xs (fun r : Int32 => (.int r, (mk x y))) pg_X3_without 0 (m_entry [.ref 258, .int p1, .int p2] 3) [] (mk x y) ((f_X3_without 258 p1 p2 x)) := by
  unfold f_X3_without
  refine mS_steps (pc' := 0) (ls' := [.ref 258, .int p1, .int p2]) (st' := []) (mem' := (mk x y)) 0 rfl ?_
  refine mS_steps (pc' := 10) (ls' := [.ref 258, .int p1, .int p2]) (st' := [.int ((p1 * (8 : Int32)) + p2), .ref 262]) (mem' := (mk x y)) 7 rfl ?_
  refine mS_ald (b := 0) (n := 64) (z := (x.1 (258 + 4) ((p1 * (8 : Int32)) + p2).toNatClampNeg)) rfl (by decide) rfl (by decide) rfl (fun _ => ?_)
  exact mS_reti ⟨_, _, _, _, _, rfl, rfl⟩ rfl
def f_X3_match_L22 (r0 : Nat) (a1 : Int32) : Nat → Int32 → mX → (mX → Option mX) → Option mX
  | 0, _, _, _ => none
  | n + 1, a2, x, k80 => (if (8 : Int32) ≤ a2 then (k80 x) else (if a2 = a1 then (f_X3_match_L22 r0 a1 n (a2 + (1 : Int32)) x k80) else (if (f_X10_has (x.1 r0 0) a1) = 0 then (f_X3_match_L22 r0 a1 n (a2 + (1 : Int32)) x k80) else (if (f_X10_has (x.1 r0 0) a2) = 0 then (f_X3_match_L22 r0 a1 n (a2 + (1 : Int32)) x k80) else (if m_in a1 8 = true then ((f_X3_without r0 a2 a1 x).bind fun q2 => (if m_in a1 8 = true then (m_let (m_xs x (r0 + 5) a1.toNatClampNeg ((x.1 (r0 + 5) a1.toNatClampNeg) &&& (q2 ||| ((1 : Int32) <<< (a2 &&& 31))))) fun x3 => (f_X3_match_L22 r0 a1 n (a2 + (1 : Int32)) x3 k80)) else none)) else none)))))
def f_X3_match_L2 (r0 : Nat) : Nat → Int32 → mX → Option mX
  | 0, _, _ => none
  | n + 1, a1, x => (if (8 : Int32) ≤ a1 then (some x) else (if m_in a1 8 = true then (if m_in a1 8 = true then (m_let (m_xs x (r0 + 5) a1.toNatClampNeg (x.1 (r0 + 2) a1.toNatClampNeg)) fun x1 => (f_X3_match_L22 r0 a1 mF (0 : Int32) x1 (fun x4 => (f_X3_match_L2 r0 n (a1 + (1 : Int32)) x4)))) else none) else none))
def f_X3_match (r0 : Nat) (x : mX) : Option mX := (f_X3_match_L2 r0 mF (0 : Int32) x)
set_option maxRecDepth 20000 in
set_option maxHeartbeats 2000000 in
theorem f_X3_match_L22_228_snd {fm : Value} {L : Nat} {xs : Nat → Int32} (a1 : Int32) (y : mY) (k80 : mX → Option mX) (hk80 : ∀ (z0 : mX), mS fm L xs (fun r : mX => (mU, mk r y)) pg_X3_match 80 [.ref 228, .int a1, mU] [] (mk z0 y) (k80 z0)) : ∀ (n : Nat) (a2 : Int32) (x : mX), mS fm L xs (fun r : mX => (mU, mk r y)) pg_X3_match 22 [.ref 228, .int a1, .int a2] [] (mk x y) (f_X3_match_L22 228 a1 n a2 x k80) := by
  intro n
  induction n with
  | zero => intro a2 x; exact mS_none
  | succ n ih =>
    intro a2 x
    rw [f_X3_match_L22]
    refine mS_steps (pc' := 25) (ls' := [.ref 228, .int a1, .int a2]) (st' := [.int (8 : Int32), .int a2]) (mem' := (mk x y)) 2 rfl ?_
    refine mS_ic3 rfl (fun _ => ?_) (fun _ => ?_)
    · refine mS_forget [.ref 228, .int a1, mU] ⟨Or.inr rfl, Or.inr rfl, Or.inl rfl, trivial⟩ ?_
      exact hk80 x
    · refine mS_steps (pc' := 30) (ls' := [.ref 228, .int a1, .int a2]) (st' := [.int a1, .int a2]) (mem' := (mk x y)) 2 rfl ?_
      refine mS_ic0 rfl (fun _ => ?_) (fun _ => ?_)
      · refine mS_steps (pc' := 22) (ls' := [.ref 228, .int a1, .int (a2 + (1 : Int32))]) (st' := []) (mem' := (mk x y)) 2 rfl ?_
        exact ih (a2 + (1 : Int32)) x
      · refine mS_steps (pc' := 38) (ls' := [.ref 228, .int a1, .int a2]) (st' := [.int a1, .int (x.1 228 0)]) (mem' := (mk x y)) 3 rfl ?_
        refine mS_call (q := (f_X10_has (x.1 228 0) a1)) 57 2 [.int (x.1 228 0), .int a1] [] rfl rfl rfl ⟨_, _, _, rfl, rfl⟩ (Nat.le_of_ble_eq_true rfl) (Nat.le_of_ble_eq_true rfl) rfl (f_X10_has_snd (x.1 228 0) a1 (mk x y)) ?_
        refine mS_steps (pc' := 41) (ls' := [.ref 228, .int a1, .int a2]) (st' := [.int (f_X10_has (x.1 228 0) a1)]) (mem' := (mk x y)) 0 rfl ?_
        refine mS_if0 rfl (fun _ => ?_) (fun _ => ?_)
        · refine mS_steps (pc' := 22) (ls' := [.ref 228, .int a1, .int (a2 + (1 : Int32))]) (st' := []) (mem' := (mk x y)) 2 rfl ?_
          exact ih (a2 + (1 : Int32)) x
        · refine mS_steps (pc' := 49) (ls' := [.ref 228, .int a1, .int a2]) (st' := [.int a2, .int (x.1 228 0)]) (mem' := (mk x y)) 3 rfl ?_
          refine mS_call (q := (f_X10_has (x.1 228 0) a2)) 57 2 [.int (x.1 228 0), .int a2] [] rfl rfl rfl ⟨_, _, _, rfl, rfl⟩ (Nat.le_of_ble_eq_true rfl) (Nat.le_of_ble_eq_true rfl) rfl (f_X10_has_snd (x.1 228 0) a2 (mk x y)) ?_
          refine mS_steps (pc' := 52) (ls' := [.ref 228, .int a1, .int a2]) (st' := [.int (f_X10_has (x.1 228 0) a2)]) (mem' := (mk x y)) 0 rfl ?_
          refine mS_if0 rfl (fun _ => ?_) (fun _ => ?_)
          · refine mS_steps (pc' := 22) (ls' := [.ref 228, .int a1, .int (a2 + (1 : Int32))]) (st' := []) (mem' := (mk x y)) 2 rfl ?_
            exact ih (a2 + (1 : Int32)) x
          · refine mS_steps (pc' := 61) (ls' := [.ref 228, .int a1, .int a2]) (st' := [.int a1, .ref 233, .int a1, .ref 233]) (mem' := (mk x y)) 4 rfl ?_
            refine mS_ald (b := 0) (n := 8) (z := (x.1 (228 + 5) a1.toNatClampNeg)) rfl (by decide) rfl (by decide) rfl (fun _ => ?_)
            refine mS_steps (pc' := 65) (ls' := [.ref 228, .int a1, .int a2]) (st' := [.int a1, .int a2, .ref 228, .int (x.1 (228 + 5) a1.toNatClampNeg), .int a1, .ref 233]) (mem' := (mk x y)) 3 rfl ?_
            refine mS_bind (fun q2 hq2 => mS_call 115 3 [.ref 228, .int a2, .int a1] [.int (x.1 (228 + 5) a1.toNatClampNeg), .int a1, .ref 233] rfl rfl rfl ⟨_, _, _, rfl, rfl⟩ (Nat.le_of_ble_eq_true rfl) (Nat.le_of_ble_eq_true rfl) hq2 (f_X3_without_228_snd a2 a1 x y) ?_)
            refine mS_steps (pc' := 73) (ls' := [.ref 228, .int a1, .int a2]) (st' := [.int ((x.1 (228 + 5) a1.toNatClampNeg) &&& (q2 ||| ((1 : Int32) <<< (a2 &&& 31)))), .int a1, .ref 233]) (mem' := (mk x y)) 5 rfl ?_
            refine mS_ast0x (n := 8) rfl rfl (by decide) (fun _ => ?_)
            refine mS_letx (fun x3 => ?_)
            refine mS_steps (pc' := 22) (ls' := [.ref 228, .int a1, .int (a2 + (1 : Int32))]) (st' := []) (mem' := (mk x3 y)) 2 rfl ?_
            exact ih (a2 + (1 : Int32)) x3
set_option maxRecDepth 20000 in
set_option maxHeartbeats 2000000 in
theorem f_X3_match_L2_228_snd {fm : Value} {L : Nat} {xs : Nat → Int32} (y : mY) : ∀ (n : Nat) (a1 : Int32) (x : mX), mS fm L xs (fun r : mX => (mU, mk r y)) pg_X3_match 2 [.ref 228, .int a1, mU] [] (mk x y) (f_X3_match_L2 228 n a1 x) := by
  intro n
  induction n with
  | zero => intro a1 x; exact mS_none
  | succ n ih =>
    intro a1 x
    rw [f_X3_match_L2]
    refine mS_steps (pc' := 5) (ls' := [.ref 228, .int a1, mU]) (st' := [.int (8 : Int32), .int a1]) (mem' := (mk x y)) 2 rfl ?_
    refine mS_ic3 rfl (fun _ => ?_) (fun _ => ?_)
    · exact mS_retv ⟨_, _, _, _, _, rfl⟩ rfl
    · refine mS_steps (pc' := 18) (ls' := [.ref 228, .int a1, mU]) (st' := [.int a1, .ref 230, .int a1, .ref 233]) (mem' := (mk x y)) 6 rfl ?_
      refine mS_ald (b := 0) (n := 8) (z := (x.1 (228 + 2) a1.toNatClampNeg)) rfl (by decide) rfl (by decide) rfl (fun _ => ?_)
      refine mS_ast0x (n := 8) rfl rfl (by decide) (fun _ => ?_)
      refine mS_letx (fun x1 => ?_)
      refine mS_steps (pc' := 22) (ls' := [.ref 228, .int a1, .int (0 : Int32)]) (st' := []) (mem' := (mk x1 y)) 2 rfl ?_
      refine f_X3_match_L22_228_snd a1 y _ ?_ mF (0 : Int32) x1
      · intro x4
        refine mS_steps (pc' := 2) (ls' := [.ref 228, .int (a1 + (1 : Int32)), mU]) (st' := []) (mem' := (mk x4 y)) 2 rfl ?_
        exact ih (a1 + (1 : Int32)) x4
set_option maxRecDepth 20000 in
set_option maxHeartbeats 2000000 in
theorem f_X3_match_228_snd {fm : Value} {L : Nat} {xs : Nat → Int32} (x : mX) (y : mY) : mS fm L xs (fun r : mX => (mU, mk r y)) pg_X3_match 0 (m_entry [.ref 228] 3) [] (mk x y) ((f_X3_match 228 x)) := by
  unfold f_X3_match
  refine mS_steps (pc' := 0) (ls' := [.ref 228, mU, mU]) (st' := []) (mem' := (mk x y)) 0 rfl ?_
  refine mS_steps (pc' := 2) (ls' := [.ref 228, .int (0 : Int32), mU]) (st' := []) (mem' := (mk x y)) 2 rfl ?_
  refine f_X3_match_L2_228_snd y mF (0 : Int32) x
set_option maxRecDepth 20000 in
set_option maxHeartbeats 2000000 in
theorem f_X3_match_L22_222_snd {fm : Value} {L : Nat} {xs : Nat → Int32} (a1 : Int32) (y : mY) (k80 : mX → Option mX) (hk80 : ∀ (z0 : mX), mS fm L xs (fun r : mX => (mU, mk r y)) pg_X3_match 80 [.ref 222, .int a1, mU] [] (mk z0 y) (k80 z0)) : ∀ (n : Nat) (a2 : Int32) (x : mX), mS fm L xs (fun r : mX => (mU, mk r y)) pg_X3_match 22 [.ref 222, .int a1, .int a2] [] (mk x y) (f_X3_match_L22 222 a1 n a2 x k80) := by
  intro n
  induction n with
  | zero => intro a2 x; exact mS_none
  | succ n ih =>
    intro a2 x
    rw [f_X3_match_L22]
    refine mS_steps (pc' := 25) (ls' := [.ref 222, .int a1, .int a2]) (st' := [.int (8 : Int32), .int a2]) (mem' := (mk x y)) 2 rfl ?_
    refine mS_ic3 rfl (fun _ => ?_) (fun _ => ?_)
    · refine mS_forget [.ref 222, .int a1, mU] ⟨Or.inr rfl, Or.inr rfl, Or.inl rfl, trivial⟩ ?_
      exact hk80 x
    · refine mS_steps (pc' := 30) (ls' := [.ref 222, .int a1, .int a2]) (st' := [.int a1, .int a2]) (mem' := (mk x y)) 2 rfl ?_
      refine mS_ic0 rfl (fun _ => ?_) (fun _ => ?_)
      · refine mS_steps (pc' := 22) (ls' := [.ref 222, .int a1, .int (a2 + (1 : Int32))]) (st' := []) (mem' := (mk x y)) 2 rfl ?_
        exact ih (a2 + (1 : Int32)) x
      · refine mS_steps (pc' := 38) (ls' := [.ref 222, .int a1, .int a2]) (st' := [.int a1, .int (x.1 222 0)]) (mem' := (mk x y)) 3 rfl ?_
        refine mS_call (q := (f_X10_has (x.1 222 0) a1)) 57 2 [.int (x.1 222 0), .int a1] [] rfl rfl rfl ⟨_, _, _, rfl, rfl⟩ (Nat.le_of_ble_eq_true rfl) (Nat.le_of_ble_eq_true rfl) rfl (f_X10_has_snd (x.1 222 0) a1 (mk x y)) ?_
        refine mS_steps (pc' := 41) (ls' := [.ref 222, .int a1, .int a2]) (st' := [.int (f_X10_has (x.1 222 0) a1)]) (mem' := (mk x y)) 0 rfl ?_
        refine mS_if0 rfl (fun _ => ?_) (fun _ => ?_)
        · refine mS_steps (pc' := 22) (ls' := [.ref 222, .int a1, .int (a2 + (1 : Int32))]) (st' := []) (mem' := (mk x y)) 2 rfl ?_
          exact ih (a2 + (1 : Int32)) x
        · refine mS_steps (pc' := 49) (ls' := [.ref 222, .int a1, .int a2]) (st' := [.int a2, .int (x.1 222 0)]) (mem' := (mk x y)) 3 rfl ?_
          refine mS_call (q := (f_X10_has (x.1 222 0) a2)) 57 2 [.int (x.1 222 0), .int a2] [] rfl rfl rfl ⟨_, _, _, rfl, rfl⟩ (Nat.le_of_ble_eq_true rfl) (Nat.le_of_ble_eq_true rfl) rfl (f_X10_has_snd (x.1 222 0) a2 (mk x y)) ?_
          refine mS_steps (pc' := 52) (ls' := [.ref 222, .int a1, .int a2]) (st' := [.int (f_X10_has (x.1 222 0) a2)]) (mem' := (mk x y)) 0 rfl ?_
          refine mS_if0 rfl (fun _ => ?_) (fun _ => ?_)
          · refine mS_steps (pc' := 22) (ls' := [.ref 222, .int a1, .int (a2 + (1 : Int32))]) (st' := []) (mem' := (mk x y)) 2 rfl ?_
            exact ih (a2 + (1 : Int32)) x
          · refine mS_steps (pc' := 61) (ls' := [.ref 222, .int a1, .int a2]) (st' := [.int a1, .ref 227, .int a1, .ref 227]) (mem' := (mk x y)) 4 rfl ?_
            refine mS_ald (b := 0) (n := 8) (z := (x.1 (222 + 5) a1.toNatClampNeg)) rfl (by decide) rfl (by decide) rfl (fun _ => ?_)
            refine mS_steps (pc' := 65) (ls' := [.ref 222, .int a1, .int a2]) (st' := [.int a1, .int a2, .ref 222, .int (x.1 (222 + 5) a1.toNatClampNeg), .int a1, .ref 227]) (mem' := (mk x y)) 3 rfl ?_
            refine mS_bind (fun q2 hq2 => mS_call 115 3 [.ref 222, .int a2, .int a1] [.int (x.1 (222 + 5) a1.toNatClampNeg), .int a1, .ref 227] rfl rfl rfl ⟨_, _, _, rfl, rfl⟩ (Nat.le_of_ble_eq_true rfl) (Nat.le_of_ble_eq_true rfl) hq2 (f_X3_without_222_snd a2 a1 x y) ?_)
            refine mS_steps (pc' := 73) (ls' := [.ref 222, .int a1, .int a2]) (st' := [.int ((x.1 (222 + 5) a1.toNatClampNeg) &&& (q2 ||| ((1 : Int32) <<< (a2 &&& 31)))), .int a1, .ref 227]) (mem' := (mk x y)) 5 rfl ?_
            refine mS_ast0x (n := 8) rfl rfl (by decide) (fun _ => ?_)
            refine mS_letx (fun x3 => ?_)
            refine mS_steps (pc' := 22) (ls' := [.ref 222, .int a1, .int (a2 + (1 : Int32))]) (st' := []) (mem' := (mk x3 y)) 2 rfl ?_
            exact ih (a2 + (1 : Int32)) x3
set_option maxRecDepth 20000 in
set_option maxHeartbeats 2000000 in
theorem f_X3_match_L2_222_snd {fm : Value} {L : Nat} {xs : Nat → Int32} (y : mY) : ∀ (n : Nat) (a1 : Int32) (x : mX), mS fm L xs (fun r : mX => (mU, mk r y)) pg_X3_match 2 [.ref 222, .int a1, mU] [] (mk x y) (f_X3_match_L2 222 n a1 x) := by
  intro n
  induction n with
  | zero => intro a1 x; exact mS_none
  | succ n ih =>
    intro a1 x
    rw [f_X3_match_L2]
    refine mS_steps (pc' := 5) (ls' := [.ref 222, .int a1, mU]) (st' := [.int (8 : Int32), .int a1]) (mem' := (mk x y)) 2 rfl ?_
    refine mS_ic3 rfl (fun _ => ?_) (fun _ => ?_)
    · exact mS_retv ⟨_, _, _, _, _, rfl⟩ rfl
    · refine mS_steps (pc' := 18) (ls' := [.ref 222, .int a1, mU]) (st' := [.int a1, .ref 224, .int a1, .ref 227]) (mem' := (mk x y)) 6 rfl ?_
      refine mS_ald (b := 0) (n := 8) (z := (x.1 (222 + 2) a1.toNatClampNeg)) rfl (by decide) rfl (by decide) rfl (fun _ => ?_)
      refine mS_ast0x (n := 8) rfl rfl (by decide) (fun _ => ?_)
      refine mS_letx (fun x1 => ?_)
      refine mS_steps (pc' := 22) (ls' := [.ref 222, .int a1, .int (0 : Int32)]) (st' := []) (mem' := (mk x1 y)) 2 rfl ?_
      refine f_X3_match_L22_222_snd a1 y _ ?_ mF (0 : Int32) x1
      · intro x4
        refine mS_steps (pc' := 2) (ls' := [.ref 222, .int (a1 + (1 : Int32)), mU]) (st' := []) (mem' := (mk x4 y)) 2 rfl ?_
        exact ih (a1 + (1 : Int32)) x4
set_option maxRecDepth 20000 in
set_option maxHeartbeats 2000000 in
theorem f_X3_match_222_snd {fm : Value} {L : Nat} {xs : Nat → Int32} (x : mX) (y : mY) : mS fm L xs (fun r : mX => (mU, mk r y)) pg_X3_match 0 (m_entry [.ref 222] 3) [] (mk x y) ((f_X3_match 222 x)) := by
  unfold f_X3_match
  refine mS_steps (pc' := 0) (ls' := [.ref 222, mU, mU]) (st' := []) (mem' := (mk x y)) 0 rfl ?_
  refine mS_steps (pc' := 2) (ls' := [.ref 222, .int (0 : Int32), mU]) (st' := []) (mem' := (mk x y)) 2 rfl ?_
  refine f_X3_match_L2_222_snd y mF (0 : Int32) x
def f_X3_build_L13 (r0 : Nat) : Nat → Int32 → mX → (mX → Option mX) → Option mX
  | 0, _, _, _ => none
  | n + 1, a4, x, k34 => (if (8 : Int32) ≤ a4 then (k34 x) else (if m_in a4 8 = true then (m_let (m_xs x (r0 + 1) a4.toNatClampNeg (0 : Int32)) fun x3 => (f_X3_build_L13 r0 n (a4 + (1 : Int32)) x3 k34)) else none))
def f_X3_build_L37 (r0 : Nat) (a3 : Int32) : Nat → Int32 → mX → Option mX
  | 0, _, _ => none
  | n + 1, a4, x => (if (16 : Int32) ≤ a4 then ((f_X3_divide r0 x).bind fun q5 => ((f_X3_match r0 q5).bind fun q6 => (some q6))) else (if (x.1 14 1) ≤ a4 then (f_X3_build_L37 r0 a3 n (a4 + (1 : Int32)) x) else (if (f_X10_has a3 a4) = 0 then (f_X3_build_L37 r0 a3 n (a4 + (1 : Int32)) x) else (if m_in a4 16 = true then (if m_in a4 16 = true then (if m_in (x.1 15 a4.toNatClampNeg) 8 = true then (if m_in (x.1 15 a4.toNatClampNeg) 8 = true then (m_let (m_xs x (r0 + 1) (x.1 15 a4.toNatClampNeg).toNatClampNeg ((x.1 (r0 + 1) (x.1 15 a4.toNatClampNeg).toNatClampNeg) ||| ((1 : Int32) <<< ((x.1 16 a4.toNatClampNeg) &&& 31)))) fun x7 => (if m_in (x.1 16 a4.toNatClampNeg) 8 = true then (if m_in (x.1 16 a4.toNatClampNeg) 8 = true then (m_let (m_xs x7 (r0 + 1) (x.1 16 a4.toNatClampNeg).toNatClampNeg ((x7.1 (r0 + 1) (x.1 16 a4.toNatClampNeg).toNatClampNeg) ||| ((1 : Int32) <<< ((x.1 15 a4.toNatClampNeg) &&& 31)))) fun x8 => (if m_in (((x.1 15 a4.toNatClampNeg) * (8 : Int32)) + (x.1 16 a4.toNatClampNeg)) 64 = true then (m_let (m_xs x8 (r0 + 3) (((x.1 15 a4.toNatClampNeg) * (8 : Int32)) + (x.1 16 a4.toNatClampNeg)).toNatClampNeg a4) fun x9 => (if m_in (((x.1 16 a4.toNatClampNeg) * (8 : Int32)) + (x.1 15 a4.toNatClampNeg)) 64 = true then (m_let (m_xs x9 (r0 + 3) (((x.1 16 a4.toNatClampNeg) * (8 : Int32)) + (x.1 15 a4.toNatClampNeg)).toNatClampNeg a4) fun x10 => (f_X3_build_L37 r0 a3 n (a4 + (1 : Int32)) x10)) else none)) else none)) else none) else none)) else none) else none) else none) else none))))
def f_X3_build (r0 : Nat) (p2 : Int32) (p3 : Int32) (x : mX) : Option mX := (m_let (m_xs x r0 0 p2) fun x1 => (m_let (m_xs x1 r0 3 p3) fun x2 => (f_X3_build_L13 r0 mF (0 : Int32) x2 (fun x4 => (f_X3_build_L37 r0 p3 mF (0 : Int32) x4)))))
set_option maxRecDepth 20000 in
set_option maxHeartbeats 2000000 in
theorem f_X3_build_L13_228_snd {fm : Value} {L : Nat} {xs : Nat → Int32} (a3 : Int32) (y : mY) (k34 : mX → Option mX) (hk34 : ∀ (z0 : mX), mS fm L xs (fun r : mX => (mU, mk r y)) pg_X3_build 34 [.ref 228, .ref 14, mU, .int a3, mU, mU, mU] [] (mk z0 y) (k34 z0)) : ∀ (n : Nat) (a4 : Int32) (x : mX), mS fm L xs (fun r : mX => (mU, mk r y)) pg_X3_build 13 [.ref 228, .ref 14, mU, .int a3, .int a4, mU, mU] [] (mk x y) (f_X3_build_L13 228 n a4 x k34) := by
  intro n
  induction n with
  | zero => intro a4 x; exact mS_none
  | succ n ih =>
    intro a4 x
    rw [f_X3_build_L13]
    refine mS_steps (pc' := 17) (ls' := [.ref 228, .ref 14, mU, .int a3, .int a4, mU, mU]) (st' := [.int (8 : Int32), .int a4]) (mem' := (mk x y)) 2 rfl ?_
    refine mS_ic3 rfl (fun _ => ?_) (fun _ => ?_)
    · refine mS_forget [.ref 228, .ref 14, mU, .int a3, mU, mU, mU] ⟨Or.inr rfl, Or.inr rfl, Or.inl rfl, Or.inr rfl, Or.inl rfl, Or.inl rfl, Or.inl rfl, trivial⟩ ?_
      exact hk34 x
    · refine mS_steps (pc' := 27) (ls' := [.ref 228, .ref 14, mU, .int a3, .int a4, mU, mU]) (st' := [.int (0 : Int32), .int a4, .ref 229]) (mem' := (mk x y)) 4 rfl ?_
      refine mS_ast0x (n := 8) rfl rfl (by decide) (fun _ => ?_)
      refine mS_letx (fun x3 => ?_)
      refine mS_steps (pc' := 13) (ls' := [.ref 228, .ref 14, mU, .int a3, .int (a4 + (1 : Int32)), mU, mU]) (st' := []) (mem' := (mk x3 y)) 2 rfl ?_
      exact ih (a4 + (1 : Int32)) x3
set_option maxRecDepth 20000 in
set_option maxHeartbeats 2000000 in
theorem f_X3_build_L37_228_snd {fm : Value} {L : Nat} {xs : Nat → Int32} (a3 : Int32) (y : mY) : ∀ (n : Nat) (a4 : Int32) (x : mX), mS fm L xs (fun r : mX => (mU, mk r y)) pg_X3_build 37 [.ref 228, .ref 14, mU, .int a3, .int a4, mU, mU] [] (mk x y) (f_X3_build_L37 228 a3 n a4 x) := by
  intro n
  induction n with
  | zero => intro a4 x; exact mS_none
  | succ n ih =>
    intro a4 x
    rw [f_X3_build_L37]
    refine mS_steps (pc' := 41) (ls' := [.ref 228, .ref 14, mU, .int a3, .int a4, mU, mU]) (st' := [.int (16 : Int32), .int a4]) (mem' := (mk x y)) 2 rfl ?_
    refine mS_ic3 rfl (fun _ => ?_) (fun _ => ?_)
    · refine mS_steps (pc' := 145) (ls' := [.ref 228, .ref 14, mU, .int a3, .int a4, mU, mU]) (st' := [.ref 228]) (mem' := (mk x y)) 1 rfl ?_
      refine mS_bind (fun q5 hq5 => mS_call 114 1 [.ref 228] [] rfl rfl rfl ⟨_, _, _, rfl, rfl⟩ (Nat.le_of_ble_eq_true rfl) (Nat.le_of_ble_eq_true rfl) hq5 (f_X3_divide_228_snd  x y) ?_)
      refine mS_steps (pc' := 149) (ls' := [.ref 228, .ref 14, mU, .int a3, .int a4, mU, mU]) (st' := [.ref 228]) (mem' := (mk q5 y)) 1 rfl ?_
      refine mS_bind (fun q6 hq6 => mS_call 116 1 [.ref 228] [] rfl rfl rfl ⟨_, _, _, rfl, rfl⟩ (Nat.le_of_ble_eq_true rfl) (Nat.le_of_ble_eq_true rfl) hq6 (f_X3_match_228_snd  q5 y) ?_)
      refine mS_steps (pc' := 152) (ls' := [.ref 228, .ref 14, mU, .int a3, .int a4, mU, mU]) (st' := []) (mem' := (mk q6 y)) 0 rfl ?_
      exact mS_retv ⟨_, _, _, _, _, rfl⟩ rfl
    · refine mS_steps (pc' := 50) (ls' := [.ref 228, .ref 14, mU, .int a3, .int a4, mU, mU]) (st' := [.int (x.1 14 1), .int a4]) (mem' := (mk x y)) 3 rfl ?_
      refine mS_ic3 rfl (fun _ => ?_) (fun _ => ?_)
      · refine mS_steps (pc' := 37) (ls' := [.ref 228, .ref 14, mU, .int a3, .int (a4 + (1 : Int32)), mU, mU]) (st' := []) (mem' := (mk x y)) 2 rfl ?_
        exact ih (a4 + (1 : Int32)) x
      · refine mS_steps (pc' := 56) (ls' := [.ref 228, .ref 14, mU, .int a3, .int a4, mU, mU]) (st' := [.int a4, .int a3]) (mem' := (mk x y)) 2 rfl ?_
        refine mS_call (q := (f_X10_has a3 a4)) 57 2 [.int a3, .int a4] [] rfl rfl rfl ⟨_, _, _, rfl, rfl⟩ (Nat.le_of_ble_eq_true rfl) (Nat.le_of_ble_eq_true rfl) rfl (f_X10_has_snd a3 a4 (mk x y)) ?_
        refine mS_steps (pc' := 59) (ls' := [.ref 228, .ref 14, mU, .int a3, .int a4, mU, mU]) (st' := [.int (f_X10_has a3 a4)]) (mem' := (mk x y)) 0 rfl ?_
        refine mS_if0 rfl (fun _ => ?_) (fun _ => ?_)
        · refine mS_steps (pc' := 37) (ls' := [.ref 228, .ref 14, mU, .int a3, .int (a4 + (1 : Int32)), mU, mU]) (st' := []) (mem' := (mk x y)) 2 rfl ?_
          exact ih (a4 + (1 : Int32)) x
        · refine mS_steps (pc' := 68) (ls' := [.ref 228, .ref 14, mU, .int a3, .int a4, mU, mU]) (st' := [.int a4, .ref 15]) (mem' := (mk x y)) 3 rfl ?_
          refine mS_ald (b := 0) (n := 16) (z := (x.1 15 a4.toNatClampNeg)) rfl (by decide) rfl (by decide) rfl (fun _ => ?_)
          refine mS_steps (pc' := 77) (ls' := [.ref 228, .ref 14, mU, .int a3, .int a4, .int (x.1 15 a4.toNatClampNeg), mU]) (st' := [.int a4, .ref 16]) (mem' := (mk x y)) 4 rfl ?_
          refine mS_ald (b := 0) (n := 16) (z := (x.1 16 a4.toNatClampNeg)) rfl (by decide) rfl (by decide) rfl (fun _ => ?_)
          refine mS_steps (pc' := 87) (ls' := [.ref 228, .ref 14, mU, .int a3, .int a4, .int (x.1 15 a4.toNatClampNeg), .int (x.1 16 a4.toNatClampNeg)]) (st' := [.int (x.1 15 a4.toNatClampNeg), .ref 229, .int (x.1 15 a4.toNatClampNeg), .ref 229]) (mem' := (mk x y)) 5 rfl ?_
          refine mS_ald (b := 0) (n := 8) (z := (x.1 (228 + 1) (x.1 15 a4.toNatClampNeg).toNatClampNeg)) rfl (by decide) rfl (by decide) rfl (fun _ => ?_)
          refine mS_steps (pc' := 93) (ls' := [.ref 228, .ref 14, mU, .int a3, .int a4, .int (x.1 15 a4.toNatClampNeg), .int (x.1 16 a4.toNatClampNeg)]) (st' := [.int ((x.1 (228 + 1) (x.1 15 a4.toNatClampNeg).toNatClampNeg) ||| ((1 : Int32) <<< ((x.1 16 a4.toNatClampNeg) &&& 31))), .int (x.1 15 a4.toNatClampNeg), .ref 229]) (mem' := (mk x y)) 4 rfl ?_
          refine mS_ast0x (n := 8) rfl rfl (by decide) (fun _ => ?_)
          refine mS_letx (fun x7 => ?_)
          refine mS_steps (pc' := 101) (ls' := [.ref 228, .ref 14, mU, .int a3, .int a4, .int (x.1 15 a4.toNatClampNeg), .int (x.1 16 a4.toNatClampNeg)]) (st' := [.int (x.1 16 a4.toNatClampNeg), .ref 229, .int (x.1 16 a4.toNatClampNeg), .ref 229]) (mem' := (mk x7 y)) 4 rfl ?_
          refine mS_ald (b := 0) (n := 8) (z := (x7.1 (228 + 1) (x.1 16 a4.toNatClampNeg).toNatClampNeg)) rfl (by decide) rfl (by decide) rfl (fun _ => ?_)
          refine mS_steps (pc' := 107) (ls' := [.ref 228, .ref 14, mU, .int a3, .int a4, .int (x.1 15 a4.toNatClampNeg), .int (x.1 16 a4.toNatClampNeg)]) (st' := [.int ((x7.1 (228 + 1) (x.1 16 a4.toNatClampNeg).toNatClampNeg) ||| ((1 : Int32) <<< ((x.1 15 a4.toNatClampNeg) &&& 31))), .int (x.1 16 a4.toNatClampNeg), .ref 229]) (mem' := (mk x7 y)) 4 rfl ?_
          refine mS_ast0x (n := 8) rfl rfl (by decide) (fun _ => ?_)
          refine mS_letx (fun x8 => ?_)
          refine mS_steps (pc' := 122) (ls' := [.ref 228, .ref 14, mU, .int a3, .int a4, .int (x.1 15 a4.toNatClampNeg), .int (x.1 16 a4.toNatClampNeg)]) (st' := [.int a4, .int (((x.1 15 a4.toNatClampNeg) * (8 : Int32)) + (x.1 16 a4.toNatClampNeg)), .ref 231]) (mem' := (mk x8 y)) 8 rfl ?_
          refine mS_ast0x (n := 64) rfl rfl (by decide) (fun _ => ?_)
          refine mS_letx (fun x9 => ?_)
          refine mS_steps (pc' := 137) (ls' := [.ref 228, .ref 14, mU, .int a3, .int a4, .int (x.1 15 a4.toNatClampNeg), .int (x.1 16 a4.toNatClampNeg)]) (st' := [.int a4, .int (((x.1 16 a4.toNatClampNeg) * (8 : Int32)) + (x.1 15 a4.toNatClampNeg)), .ref 231]) (mem' := (mk x9 y)) 8 rfl ?_
          refine mS_ast0x (n := 64) rfl rfl (by decide) (fun _ => ?_)
          refine mS_letx (fun x10 => ?_)
          refine mS_steps (pc' := 37) (ls' := [.ref 228, .ref 14, mU, .int a3, .int (a4 + (1 : Int32)), .int (x.1 15 a4.toNatClampNeg), .int (x.1 16 a4.toNatClampNeg)]) (st' := []) (mem' := (mk x10 y)) 2 rfl ?_
          refine mS_forget [.ref 228, .ref 14, mU, .int a3, .int (a4 + (1 : Int32)), mU, mU] ⟨Or.inr rfl, Or.inr rfl, Or.inl rfl, Or.inr rfl, Or.inr rfl, Or.inl rfl, Or.inl rfl, trivial⟩ ?_
          exact ih (a4 + (1 : Int32)) x10
set_option maxRecDepth 20000 in
set_option maxHeartbeats 2000000 in
theorem f_X3_build_228_snd {fm : Value} {L : Nat} {xs : Nat → Int32} (p2 : Int32) (p3 : Int32) (x : mX) (y : mY) : mS fm L xs (fun r : mX => (mU, mk r y)) pg_X3_build 0 (m_entry [.ref 228, .ref 14, .int p2, .int p3] 7) [] (mk x y) ((f_X3_build 228 p2 p3 x)) := by
  unfold f_X3_build
  refine mS_steps (pc' := 0) (ls' := [.ref 228, .ref 14, .int p2, .int p3, mU, mU, mU]) (st' := []) (mem' := (mk x y)) 0 rfl ?_
  refine mS_steps (pc' := 2) (ls' := [.ref 228, .ref 14, .int p2, .int p3, mU, mU, mU]) (st' := [.int p2, .ref 228]) (mem' := (mk x y)) 2 rfl ?_
  refine mS_putx rfl rfl (by decide) rfl ?_
  refine mS_letx (fun x1 => ?_)
  refine mS_steps (pc' := 7) (ls' := [.ref 228, .ref 14, .int p2, .int p3, mU, mU, mU]) (st' := [.int p3, .ref 228]) (mem' := (mk x1 y)) 2 rfl ?_
  refine mS_putx rfl rfl (by decide) rfl ?_
  refine mS_letx (fun x2 => ?_)
  refine mS_steps (pc' := 13) (ls' := [.ref 228, .ref 14, .int p2, .int p3, .int (0 : Int32), mU, mU]) (st' := []) (mem' := (mk x2 y)) 2 rfl ?_
  refine mS_forget [.ref 228, .ref 14, mU, .int p3, .int (0 : Int32), mU, mU] ⟨Or.inr rfl, Or.inr rfl, Or.inl rfl, Or.inr rfl, Or.inr rfl, Or.inl rfl, Or.inl rfl, trivial⟩ ?_
  refine f_X3_build_L13_228_snd p3 y _ ?_ mF (0 : Int32) x2
  · intro x4
    refine mS_steps (pc' := 37) (ls' := [.ref 228, .ref 14, mU, .int p3, .int (0 : Int32), mU, mU]) (st' := []) (mem' := (mk x4 y)) 2 rfl ?_
    refine f_X3_build_L37_228_snd p3 y mF (0 : Int32) x4
set_option maxRecDepth 20000 in
set_option maxHeartbeats 2000000 in
theorem f_X3_build_L13_222_snd {fm : Value} {L : Nat} {xs : Nat → Int32} (a3 : Int32) (y : mY) (k34 : mX → Option mX) (hk34 : ∀ (z0 : mX), mS fm L xs (fun r : mX => (mU, mk r y)) pg_X3_build 34 [.ref 222, .ref 14, mU, .int a3, mU, mU, mU] [] (mk z0 y) (k34 z0)) : ∀ (n : Nat) (a4 : Int32) (x : mX), mS fm L xs (fun r : mX => (mU, mk r y)) pg_X3_build 13 [.ref 222, .ref 14, mU, .int a3, .int a4, mU, mU] [] (mk x y) (f_X3_build_L13 222 n a4 x k34) := by
  intro n
  induction n with
  | zero => intro a4 x; exact mS_none
  | succ n ih =>
    intro a4 x
    rw [f_X3_build_L13]
    refine mS_steps (pc' := 17) (ls' := [.ref 222, .ref 14, mU, .int a3, .int a4, mU, mU]) (st' := [.int (8 : Int32), .int a4]) (mem' := (mk x y)) 2 rfl ?_
    refine mS_ic3 rfl (fun _ => ?_) (fun _ => ?_)
    · refine mS_forget [.ref 222, .ref 14, mU, .int a3, mU, mU, mU] ⟨Or.inr rfl, Or.inr rfl, Or.inl rfl, Or.inr rfl, Or.inl rfl, Or.inl rfl, Or.inl rfl, trivial⟩ ?_
      exact hk34 x
    · refine mS_steps (pc' := 27) (ls' := [.ref 222, .ref 14, mU, .int a3, .int a4, mU, mU]) (st' := [.int (0 : Int32), .int a4, .ref 223]) (mem' := (mk x y)) 4 rfl ?_
      refine mS_ast0x (n := 8) rfl rfl (by decide) (fun _ => ?_)
      refine mS_letx (fun x3 => ?_)
      refine mS_steps (pc' := 13) (ls' := [.ref 222, .ref 14, mU, .int a3, .int (a4 + (1 : Int32)), mU, mU]) (st' := []) (mem' := (mk x3 y)) 2 rfl ?_
      exact ih (a4 + (1 : Int32)) x3
set_option maxRecDepth 20000 in
set_option maxHeartbeats 2000000 in
theorem f_X3_build_L37_222_snd {fm : Value} {L : Nat} {xs : Nat → Int32} (a3 : Int32) (y : mY) : ∀ (n : Nat) (a4 : Int32) (x : mX), mS fm L xs (fun r : mX => (mU, mk r y)) pg_X3_build 37 [.ref 222, .ref 14, mU, .int a3, .int a4, mU, mU] [] (mk x y) (f_X3_build_L37 222 a3 n a4 x) := by
  intro n
  induction n with
  | zero => intro a4 x; exact mS_none
  | succ n ih =>
    intro a4 x
    rw [f_X3_build_L37]
    refine mS_steps (pc' := 41) (ls' := [.ref 222, .ref 14, mU, .int a3, .int a4, mU, mU]) (st' := [.int (16 : Int32), .int a4]) (mem' := (mk x y)) 2 rfl ?_
    refine mS_ic3 rfl (fun _ => ?_) (fun _ => ?_)
    · refine mS_steps (pc' := 145) (ls' := [.ref 222, .ref 14, mU, .int a3, .int a4, mU, mU]) (st' := [.ref 222]) (mem' := (mk x y)) 1 rfl ?_
      refine mS_bind (fun q5 hq5 => mS_call 114 1 [.ref 222] [] rfl rfl rfl ⟨_, _, _, rfl, rfl⟩ (Nat.le_of_ble_eq_true rfl) (Nat.le_of_ble_eq_true rfl) hq5 (f_X3_divide_222_snd  x y) ?_)
      refine mS_steps (pc' := 149) (ls' := [.ref 222, .ref 14, mU, .int a3, .int a4, mU, mU]) (st' := [.ref 222]) (mem' := (mk q5 y)) 1 rfl ?_
      refine mS_bind (fun q6 hq6 => mS_call 116 1 [.ref 222] [] rfl rfl rfl ⟨_, _, _, rfl, rfl⟩ (Nat.le_of_ble_eq_true rfl) (Nat.le_of_ble_eq_true rfl) hq6 (f_X3_match_222_snd  q5 y) ?_)
      refine mS_steps (pc' := 152) (ls' := [.ref 222, .ref 14, mU, .int a3, .int a4, mU, mU]) (st' := []) (mem' := (mk q6 y)) 0 rfl ?_
      exact mS_retv ⟨_, _, _, _, _, rfl⟩ rfl
    · refine mS_steps (pc' := 50) (ls' := [.ref 222, .ref 14, mU, .int a3, .int a4, mU, mU]) (st' := [.int (x.1 14 1), .int a4]) (mem' := (mk x y)) 3 rfl ?_
      refine mS_ic3 rfl (fun _ => ?_) (fun _ => ?_)
      · refine mS_steps (pc' := 37) (ls' := [.ref 222, .ref 14, mU, .int a3, .int (a4 + (1 : Int32)), mU, mU]) (st' := []) (mem' := (mk x y)) 2 rfl ?_
        exact ih (a4 + (1 : Int32)) x
      · refine mS_steps (pc' := 56) (ls' := [.ref 222, .ref 14, mU, .int a3, .int a4, mU, mU]) (st' := [.int a4, .int a3]) (mem' := (mk x y)) 2 rfl ?_
        refine mS_call (q := (f_X10_has a3 a4)) 57 2 [.int a3, .int a4] [] rfl rfl rfl ⟨_, _, _, rfl, rfl⟩ (Nat.le_of_ble_eq_true rfl) (Nat.le_of_ble_eq_true rfl) rfl (f_X10_has_snd a3 a4 (mk x y)) ?_
        refine mS_steps (pc' := 59) (ls' := [.ref 222, .ref 14, mU, .int a3, .int a4, mU, mU]) (st' := [.int (f_X10_has a3 a4)]) (mem' := (mk x y)) 0 rfl ?_
        refine mS_if0 rfl (fun _ => ?_) (fun _ => ?_)
        · refine mS_steps (pc' := 37) (ls' := [.ref 222, .ref 14, mU, .int a3, .int (a4 + (1 : Int32)), mU, mU]) (st' := []) (mem' := (mk x y)) 2 rfl ?_
          exact ih (a4 + (1 : Int32)) x
        · refine mS_steps (pc' := 68) (ls' := [.ref 222, .ref 14, mU, .int a3, .int a4, mU, mU]) (st' := [.int a4, .ref 15]) (mem' := (mk x y)) 3 rfl ?_
          refine mS_ald (b := 0) (n := 16) (z := (x.1 15 a4.toNatClampNeg)) rfl (by decide) rfl (by decide) rfl (fun _ => ?_)
          refine mS_steps (pc' := 77) (ls' := [.ref 222, .ref 14, mU, .int a3, .int a4, .int (x.1 15 a4.toNatClampNeg), mU]) (st' := [.int a4, .ref 16]) (mem' := (mk x y)) 4 rfl ?_
          refine mS_ald (b := 0) (n := 16) (z := (x.1 16 a4.toNatClampNeg)) rfl (by decide) rfl (by decide) rfl (fun _ => ?_)
          refine mS_steps (pc' := 87) (ls' := [.ref 222, .ref 14, mU, .int a3, .int a4, .int (x.1 15 a4.toNatClampNeg), .int (x.1 16 a4.toNatClampNeg)]) (st' := [.int (x.1 15 a4.toNatClampNeg), .ref 223, .int (x.1 15 a4.toNatClampNeg), .ref 223]) (mem' := (mk x y)) 5 rfl ?_
          refine mS_ald (b := 0) (n := 8) (z := (x.1 (222 + 1) (x.1 15 a4.toNatClampNeg).toNatClampNeg)) rfl (by decide) rfl (by decide) rfl (fun _ => ?_)
          refine mS_steps (pc' := 93) (ls' := [.ref 222, .ref 14, mU, .int a3, .int a4, .int (x.1 15 a4.toNatClampNeg), .int (x.1 16 a4.toNatClampNeg)]) (st' := [.int ((x.1 (222 + 1) (x.1 15 a4.toNatClampNeg).toNatClampNeg) ||| ((1 : Int32) <<< ((x.1 16 a4.toNatClampNeg) &&& 31))), .int (x.1 15 a4.toNatClampNeg), .ref 223]) (mem' := (mk x y)) 4 rfl ?_
          refine mS_ast0x (n := 8) rfl rfl (by decide) (fun _ => ?_)
          refine mS_letx (fun x7 => ?_)
          refine mS_steps (pc' := 101) (ls' := [.ref 222, .ref 14, mU, .int a3, .int a4, .int (x.1 15 a4.toNatClampNeg), .int (x.1 16 a4.toNatClampNeg)]) (st' := [.int (x.1 16 a4.toNatClampNeg), .ref 223, .int (x.1 16 a4.toNatClampNeg), .ref 223]) (mem' := (mk x7 y)) 4 rfl ?_
          refine mS_ald (b := 0) (n := 8) (z := (x7.1 (222 + 1) (x.1 16 a4.toNatClampNeg).toNatClampNeg)) rfl (by decide) rfl (by decide) rfl (fun _ => ?_)
          refine mS_steps (pc' := 107) (ls' := [.ref 222, .ref 14, mU, .int a3, .int a4, .int (x.1 15 a4.toNatClampNeg), .int (x.1 16 a4.toNatClampNeg)]) (st' := [.int ((x7.1 (222 + 1) (x.1 16 a4.toNatClampNeg).toNatClampNeg) ||| ((1 : Int32) <<< ((x.1 15 a4.toNatClampNeg) &&& 31))), .int (x.1 16 a4.toNatClampNeg), .ref 223]) (mem' := (mk x7 y)) 4 rfl ?_
          refine mS_ast0x (n := 8) rfl rfl (by decide) (fun _ => ?_)
          refine mS_letx (fun x8 => ?_)
          refine mS_steps (pc' := 122) (ls' := [.ref 222, .ref 14, mU, .int a3, .int a4, .int (x.1 15 a4.toNatClampNeg), .int (x.1 16 a4.toNatClampNeg)]) (st' := [.int a4, .int (((x.1 15 a4.toNatClampNeg) * (8 : Int32)) + (x.1 16 a4.toNatClampNeg)), .ref 225]) (mem' := (mk x8 y)) 8 rfl ?_
          refine mS_ast0x (n := 64) rfl rfl (by decide) (fun _ => ?_)
          refine mS_letx (fun x9 => ?_)
          refine mS_steps (pc' := 137) (ls' := [.ref 222, .ref 14, mU, .int a3, .int a4, .int (x.1 15 a4.toNatClampNeg), .int (x.1 16 a4.toNatClampNeg)]) (st' := [.int a4, .int (((x.1 16 a4.toNatClampNeg) * (8 : Int32)) + (x.1 15 a4.toNatClampNeg)), .ref 225]) (mem' := (mk x9 y)) 8 rfl ?_
          refine mS_ast0x (n := 64) rfl rfl (by decide) (fun _ => ?_)
          refine mS_letx (fun x10 => ?_)
          refine mS_steps (pc' := 37) (ls' := [.ref 222, .ref 14, mU, .int a3, .int (a4 + (1 : Int32)), .int (x.1 15 a4.toNatClampNeg), .int (x.1 16 a4.toNatClampNeg)]) (st' := []) (mem' := (mk x10 y)) 2 rfl ?_
          refine mS_forget [.ref 222, .ref 14, mU, .int a3, .int (a4 + (1 : Int32)), mU, mU] ⟨Or.inr rfl, Or.inr rfl, Or.inl rfl, Or.inr rfl, Or.inr rfl, Or.inl rfl, Or.inl rfl, trivial⟩ ?_
          exact ih (a4 + (1 : Int32)) x10
set_option maxRecDepth 20000 in
set_option maxHeartbeats 2000000 in
theorem f_X3_build_222_snd {fm : Value} {L : Nat} {xs : Nat → Int32} (p2 : Int32) (p3 : Int32) (x : mX) (y : mY) : mS fm L xs (fun r : mX => (mU, mk r y)) pg_X3_build 0 (m_entry [.ref 222, .ref 14, .int p2, .int p3] 7) [] (mk x y) ((f_X3_build 222 p2 p3 x)) := by
  unfold f_X3_build
  refine mS_steps (pc' := 0) (ls' := [.ref 222, .ref 14, .int p2, .int p3, mU, mU, mU]) (st' := []) (mem' := (mk x y)) 0 rfl ?_
  refine mS_steps (pc' := 2) (ls' := [.ref 222, .ref 14, .int p2, .int p3, mU, mU, mU]) (st' := [.int p2, .ref 222]) (mem' := (mk x y)) 2 rfl ?_
  refine mS_putx rfl rfl (by decide) rfl ?_
  refine mS_letx (fun x1 => ?_)
  refine mS_steps (pc' := 7) (ls' := [.ref 222, .ref 14, .int p2, .int p3, mU, mU, mU]) (st' := [.int p3, .ref 222]) (mem' := (mk x1 y)) 2 rfl ?_
  refine mS_putx rfl rfl (by decide) rfl ?_
  refine mS_letx (fun x2 => ?_)
  refine mS_steps (pc' := 13) (ls' := [.ref 222, .ref 14, .int p2, .int p3, .int (0 : Int32), mU, mU]) (st' := []) (mem' := (mk x2 y)) 2 rfl ?_
  refine mS_forget [.ref 222, .ref 14, mU, .int p3, .int (0 : Int32), mU, mU] ⟨Or.inr rfl, Or.inr rfl, Or.inl rfl, Or.inr rfl, Or.inr rfl, Or.inl rfl, Or.inl rfl, trivial⟩ ?_
  refine f_X3_build_L13_222_snd p3 y _ ?_ mF (0 : Int32) x2
  · intro x4
    refine mS_steps (pc' := 37) (ls' := [.ref 222, .ref 14, mU, .int p3, .int (0 : Int32), mU, mU]) (st' := []) (mem' := (mk x4 y)) 2 rfl ?_
    refine f_X3_build_L37_222_snd p3 y mF (0 : Int32) x4
def f_X7_forget (x : mX) : mX := (m_let (m_xs x 234 2 (0 : Int32)) fun x1 => x1)
set_option maxRecDepth 20000 in
set_option maxHeartbeats 2000000 in
theorem f_X7_forget_snd {fm : Value} {L : Nat} {xs : Nat → Int32} (x : mX) (y : mY) : mS fm L xs (fun r : mX => (mU, mk r y)) pg_X7_forget 0 (m_entry [.ref 234] 1) [] (mk x y) (some (f_X7_forget x)) := by
  unfold f_X7_forget
  refine mS_steps (pc' := 0) (ls' := [.ref 234]) (st' := []) (mem' := (mk x y)) 0 rfl ?_
  refine mS_steps (pc' := 2) (ls' := [.ref 234]) (st' := [.int (0 : Int32), .ref 234]) (mem' := (mk x y)) 2 rfl ?_
  refine mS_putx rfl rfl (by decide) rfl ?_
  refine mS_letxT (fun x1 => ?_)
  exact mS_retv ⟨_, _, _, _, _, rfl⟩ rfl
def f_X10_learntNet (x : mX) : Option (Nat × mX) := (if (x.1 0 8) = 0 then (some (228, x)) else ((f_X3_build 228 (x.1 14 5) (x.1 14 6) x).bind fun q1 => (m_let (f_X7_forget q1) fun x2 => (m_let (m_xs x2 0 8 (0 : Int32)) fun x3 => (some (228, x3))))))
set_option maxRecDepth 20000 in
set_option maxHeartbeats 2000000 in
theorem f_X10_learntNet_snd {fm : Value} {L : Nat} {xs : Nat → Int32} (x : mX) (y : mY) : mS fm L xs (fun r : (Nat × mX) => (.ref r.1, mk r.2 y)) pg_X10_learntNet 0 (m_entry [.ref 0] 1) [] (mk x y) ((f_X10_learntNet x)) := by
  unfold f_X10_learntNet
  refine mS_steps (pc' := 0) (ls' := [.ref 0]) (st' := []) (mem' := (mk x y)) 0 rfl ?_
  refine mS_steps (pc' := 4) (ls' := [.ref 0]) (st' := [.int (x.1 0 8)]) (mem' := (mk x y)) 2 rfl ?_
  refine mS_if0 rfl (fun _ => ?_) (fun _ => ?_)
  · refine mS_steps (pc' := 48) (ls' := [.ref 0]) (st' := [.ref 228]) (mem' := (mk x y)) 2 rfl ?_
    exact mS_reta ⟨_, _, _, _, _, rfl⟩ rfl
  · refine mS_steps (pc' := 29) (ls' := [.ref 0]) (st' := [.int (x.1 14 6), .int (x.1 14 5), .ref 14, .ref 228]) (mem' := (mk x y)) 10 rfl ?_
    refine mS_bind (fun q1 hq1 => mS_call 117 4 [.ref 228, .ref 14, .int (x.1 14 5), .int (x.1 14 6)] [] rfl rfl rfl ⟨_, _, _, rfl, rfl⟩ (Nat.le_of_ble_eq_true rfl) (Nat.le_of_ble_eq_true rfl) hq1 (f_X3_build_228_snd (x.1 14 5) (x.1 14 6) x y) ?_)
    refine mS_steps (pc' := 36) (ls' := [.ref 0]) (st' := [.ref 234]) (mem' := (mk q1 y)) 2 rfl ?_
    refine mS_call (q := (f_X7_forget q1)) 118 1 [.ref 234] [] rfl rfl rfl ⟨_, _, _, rfl, rfl⟩ (Nat.le_of_ble_eq_true rfl) (Nat.le_of_ble_eq_true rfl) rfl (f_X7_forget_snd  q1 y) ?_
    refine mS_letx (fun x2 => ?_)
    refine mS_steps (pc' := 41) (ls' := [.ref 0]) (st' := [.int (0 : Int32), .ref 0]) (mem' := (mk x2 y)) 2 rfl ?_
    refine mS_putcx rfl rfl (by decide) rfl (by decide) ?_
    refine mS_letx (fun x3 => ?_)
    refine mS_steps (pc' := 48) (ls' := [.ref 0]) (st' := [.ref 228]) (mem' := (mk x3 y)) 2 rfl ?_
    exact mS_reta ⟨_, _, _, _, _, rfl⟩ rfl
def f_X7_cell (p0 : Int32) (p1 : Int32) (p2 : Int32) : Int32 := ((((p2 * (8 : Int32)) + p0) * (8 : Int32)) + p1)
set_option maxRecDepth 20000 in
set_option maxHeartbeats 2000000 in
theorem f_X7_cell_snd {fm : Value} {L : Nat} {xs : Nat → Int32} (p0 : Int32) (p1 : Int32) (p2 : Int32) (mem : mM) : mS fm L xs (fun r : Int32 => (.int r, mem)) pg_X7_cell 0 (m_entry [.int p0, .int p1, .int p2] 3) [] mem (some (f_X7_cell p0 p1 p2)) := by
  unfold f_X7_cell
  refine mS_steps (pc' := 0) (ls' := [.int p0, .int p1, .int p2]) (st' := []) (mem' := mem) 0 rfl ?_
  refine mS_steps (pc' := 11) (ls' := [.int p0, .int p1, .int p2]) (st' := [.int ((((p2 * (8 : Int32)) + p0) * (8 : Int32)) + p1)]) (mem' := mem) 9 rfl ?_
  exact mS_reti ⟨_, _, _, _, _, rfl, rfl⟩ rfl
def f_X3_linkOf (r0 : Nat) (p1 : Int32) (p2 : Int32) (x : mX) : Option Int32 := (if m_in p1 8 = true then (if (f_X10_has (x.1 (r0 + 1) p1.toNatClampNeg) p2) = 0 then (some (-1 : Int32)) else (if m_in ((p1 * (8 : Int32)) + p2) 64 = true then (some (x.1 (r0 + 3) ((p1 * (8 : Int32)) + p2).toNatClampNeg)) else none)) else none)
set_option maxRecDepth 20000 in
set_option maxHeartbeats 2000000 in
theorem f_X3_linkOf_228_snd {fm : Value} {L : Nat} {xs : Nat → Int32} (p1 : Int32) (p2 : Int32) (x : mX) (y : mY) : mS fm L xs (fun r : Int32 => (.int r, (mk x y))) pg_X3_linkOf 0 (m_entry [.ref 228, .int p1, .int p2] 3) [] (mk x y) ((f_X3_linkOf 228 p1 p2 x)) := by
  unfold f_X3_linkOf
  refine mS_steps (pc' := 0) (ls' := [.ref 228, .int p1, .int p2]) (st' := []) (mem' := (mk x y)) 0 rfl ?_
  refine mS_steps (pc' := 5) (ls' := [.ref 228, .int p1, .int p2]) (st' := [.int p1, .ref 229]) (mem' := (mk x y)) 3 rfl ?_
  refine mS_ald (b := 0) (n := 8) (z := (x.1 (228 + 1) p1.toNatClampNeg)) rfl (by decide) rfl (by decide) rfl (fun _ => ?_)
  refine mS_steps (pc' := 7) (ls' := [.ref 228, .int p1, .int p2]) (st' := [.int p2, .int (x.1 (228 + 1) p1.toNatClampNeg)]) (mem' := (mk x y)) 1 rfl ?_
  refine mS_call (q := (f_X10_has (x.1 (228 + 1) p1.toNatClampNeg) p2)) 57 2 [.int (x.1 (228 + 1) p1.toNatClampNeg), .int p2] [] rfl rfl rfl ⟨_, _, _, rfl, rfl⟩ (Nat.le_of_ble_eq_true rfl) (Nat.le_of_ble_eq_true rfl) rfl (f_X10_has_snd (x.1 (228 + 1) p1.toNatClampNeg) p2 (mk x y)) ?_
  refine mS_steps (pc' := 10) (ls' := [.ref 228, .int p1, .int p2]) (st' := [.int (f_X10_has (x.1 (228 + 1) p1.toNatClampNeg) p2)]) (mem' := (mk x y)) 0 rfl ?_
  refine mS_if0 rfl (fun _ => ?_) (fun _ => ?_)
  · refine mS_steps (pc' := 28) (ls' := [.ref 228, .int p1, .int p2]) (st' := [.int (-1 : Int32)]) (mem' := (mk x y)) 1 rfl ?_
    exact mS_reti ⟨_, _, _, _, _, rfl, rfl⟩ rfl
  · refine mS_steps (pc' := 23) (ls' := [.ref 228, .int p1, .int p2]) (st' := [.int ((p1 * (8 : Int32)) + p2), .ref 231]) (mem' := (mk x y)) 7 rfl ?_
    refine mS_ald (b := 0) (n := 64) (z := (x.1 (228 + 3) ((p1 * (8 : Int32)) + p2).toNatClampNeg)) rfl (by decide) rfl (by decide) rfl (fun _ => ?_)
    refine mS_steps (pc' := 28) (ls' := [.ref 228, .int p1, .int p2]) (st' := [.int (x.1 (228 + 3) ((p1 * (8 : Int32)) + p2).toNatClampNeg)]) (mem' := (mk x y)) 1 rfl ?_
    exact mS_reti ⟨_, _, _, _, _, rfl, rfl⟩ rfl
set_option maxRecDepth 20000 in
set_option maxHeartbeats 2000000 in
theorem f_X3_linkOf_222_snd {fm : Value} {L : Nat} {xs : Nat → Int32} (p1 : Int32) (p2 : Int32) (x : mX) (y : mY) : mS fm L xs (fun r : Int32 => (.int r, (mk x y))) pg_X3_linkOf 0 (m_entry [.ref 222, .int p1, .int p2] 3) [] (mk x y) ((f_X3_linkOf 222 p1 p2 x)) := by
  unfold f_X3_linkOf
  refine mS_steps (pc' := 0) (ls' := [.ref 222, .int p1, .int p2]) (st' := []) (mem' := (mk x y)) 0 rfl ?_
  refine mS_steps (pc' := 5) (ls' := [.ref 222, .int p1, .int p2]) (st' := [.int p1, .ref 223]) (mem' := (mk x y)) 3 rfl ?_
  refine mS_ald (b := 0) (n := 8) (z := (x.1 (222 + 1) p1.toNatClampNeg)) rfl (by decide) rfl (by decide) rfl (fun _ => ?_)
  refine mS_steps (pc' := 7) (ls' := [.ref 222, .int p1, .int p2]) (st' := [.int p2, .int (x.1 (222 + 1) p1.toNatClampNeg)]) (mem' := (mk x y)) 1 rfl ?_
  refine mS_call (q := (f_X10_has (x.1 (222 + 1) p1.toNatClampNeg) p2)) 57 2 [.int (x.1 (222 + 1) p1.toNatClampNeg), .int p2] [] rfl rfl rfl ⟨_, _, _, rfl, rfl⟩ (Nat.le_of_ble_eq_true rfl) (Nat.le_of_ble_eq_true rfl) rfl (f_X10_has_snd (x.1 (222 + 1) p1.toNatClampNeg) p2 (mk x y)) ?_
  refine mS_steps (pc' := 10) (ls' := [.ref 222, .int p1, .int p2]) (st' := [.int (f_X10_has (x.1 (222 + 1) p1.toNatClampNeg) p2)]) (mem' := (mk x y)) 0 rfl ?_
  refine mS_if0 rfl (fun _ => ?_) (fun _ => ?_)
  · refine mS_steps (pc' := 28) (ls' := [.ref 222, .int p1, .int p2]) (st' := [.int (-1 : Int32)]) (mem' := (mk x y)) 1 rfl ?_
    exact mS_reti ⟨_, _, _, _, _, rfl, rfl⟩ rfl
  · refine mS_steps (pc' := 23) (ls' := [.ref 222, .int p1, .int p2]) (st' := [.int ((p1 * (8 : Int32)) + p2), .ref 225]) (mem' := (mk x y)) 7 rfl ?_
    refine mS_ald (b := 0) (n := 64) (z := (x.1 (222 + 3) ((p1 * (8 : Int32)) + p2).toNatClampNeg)) rfl (by decide) rfl (by decide) rfl (fun _ => ?_)
    refine mS_steps (pc' := 28) (ls' := [.ref 222, .int p1, .int p2]) (st' := [.int (x.1 (222 + 3) ((p1 * (8 : Int32)) + p2).toNatClampNeg)]) (mem' := (mk x y)) 1 rfl ?_
    exact mS_reti ⟨_, _, _, _, _, rfl, rfl⟩ rfl
def f_X7_putHop (p2 : Int32) (p3 : Int32) (p4 : Int32) (p5 : Int32) (x : mX) : Option mX := (if m_in (f_X7_cell p2 p3 p4) 128 = true then (m_let (m_xs x 238 (f_X7_cell p2 p3 p4).toNatClampNeg p5) fun x1 => (if p5 = (-1 : Int32) then (if m_in (f_X7_cell p2 p3 p4) 128 = true then (m_let (m_xs x1 239 (f_X7_cell p2 p3 p4).toNatClampNeg (-1 : Int32)) fun x2 => (some x2)) else none) else ((f_X3_linkOf 228 p3 p5 x1).bind fun q3 => (if m_in (f_X7_cell p2 p3 p4) 128 = true then (m_let (m_xs x1 239 (f_X7_cell p2 p3 p4).toNatClampNeg q3) fun x4 => (some x4)) else none)))) else none)
set_option maxRecDepth 20000 in
set_option maxHeartbeats 2000000 in
theorem f_X7_putHop_snd {fm : Value} {L : Nat} {xs : Nat → Int32} (p2 : Int32) (p3 : Int32) (p4 : Int32) (p5 : Int32) (x : mX) (y : mY) : mS fm L xs (fun r : mX => (mU, mk r y)) pg_X7_putHop 0 (m_entry [.ref 234, .ref 228, .int p2, .int p3, .int p4, .int p5] 6) [] (mk x y) ((f_X7_putHop p2 p3 p4 p5 x)) := by
  unfold f_X7_putHop
  refine mS_steps (pc' := 0) (ls' := [.ref 234, .ref 228, .int p2, .int p3, .int p4, .int p5]) (st' := []) (mem' := (mk x y)) 0 rfl ?_
  refine mS_steps (pc' := 8) (ls' := [.ref 234, .ref 228, .int p2, .int p3, .int p4, .int p5]) (st' := [.int p4, .int p3, .int p2, .ref 238]) (mem' := (mk x y)) 5 rfl ?_
  refine mS_call (q := (f_X7_cell p2 p3 p4)) 120 3 [.int p2, .int p3, .int p4] [.ref 238] rfl rfl rfl ⟨_, _, _, rfl, rfl⟩ (Nat.le_of_ble_eq_true rfl) (Nat.le_of_ble_eq_true rfl) rfl (f_X7_cell_snd p2 p3 p4 (mk x y)) ?_
  refine mS_steps (pc' := 13) (ls' := [.ref 234, .ref 228, .int p2, .int p3, .int p4, .int p5]) (st' := [.int p5, .int (f_X7_cell p2 p3 p4), .ref 238]) (mem' := (mk x y)) 1 rfl ?_
  refine mS_ast0x (n := 128) rfl rfl (by decide) (fun _ => ?_)
  refine mS_letx (fun x1 => ?_)
  refine mS_steps (pc' := 22) (ls' := [.ref 234, .ref 228, .int p2, .int p3, .int p4, .int p5]) (st' := [.int p4, .int p3, .int p2, .ref 239]) (mem' := (mk x1 y)) 5 rfl ?_
  refine mS_call (q := (f_X7_cell p2 p3 p4)) 120 3 [.int p2, .int p3, .int p4] [.ref 239] rfl rfl rfl ⟨_, _, _, rfl, rfl⟩ (Nat.le_of_ble_eq_true rfl) (Nat.le_of_ble_eq_true rfl) rfl (f_X7_cell_snd p2 p3 p4 (mk x1 y)) ?_
  refine mS_steps (pc' := 28) (ls' := [.ref 234, .ref 228, .int p2, .int p3, .int p4, .int p5]) (st' := [.int (-1 : Int32), .int p5, .int (f_X7_cell p2 p3 p4), .ref 239]) (mem' := (mk x1 y)) 2 rfl ?_
  refine mS_ic1 rfl (fun _ => ?_) (fun _ => ?_)
  · refine mS_steps (pc' := 42) (ls' := [.ref 234, .ref 228, .int p2, .int p3, .int p4, .int p5]) (st' := [.int (-1 : Int32), .int (f_X7_cell p2 p3 p4), .ref 239]) (mem' := (mk x1 y)) 2 rfl ?_
    refine mS_ast0x (n := 128) rfl rfl (by decide) (fun _ => ?_)
    refine mS_letx (fun x2 => ?_)
    exact mS_retv ⟨_, _, _, _, _, rfl⟩ rfl
  · refine mS_steps (pc' := 39) (ls' := [.ref 234, .ref 228, .int p2, .int p3, .int p4, .int p5]) (st' := [.int p5, .int p3, .ref 228, .int (f_X7_cell p2 p3 p4), .ref 239]) (mem' := (mk x1 y)) 3 rfl ?_
    refine mS_bind (fun q3 hq3 => mS_call 121 3 [.ref 228, .int p3, .int p5] [.int (f_X7_cell p2 p3 p4), .ref 239] rfl rfl rfl ⟨_, _, _, rfl, rfl⟩ (Nat.le_of_ble_eq_true rfl) (Nat.le_of_ble_eq_true rfl) hq3 (f_X3_linkOf_228_snd p3 p5 x1 y) ?_)
    refine mS_steps (pc' := 42) (ls' := [.ref 234, .ref 228, .int p2, .int p3, .int p4, .int p5]) (st' := [.int q3, .int (f_X7_cell p2 p3 p4), .ref 239]) (mem' := (mk x1 y)) 0 rfl ?_
    refine mS_ast0x (n := 128) rfl rfl (by decide) (fun _ => ?_)
    refine mS_letx (fun x4 => ?_)
    exact mS_retv ⟨_, _, _, _, _, rfl⟩ rfl
def f_X7_ownOf (p1 : Int32) (p2 : Int32) (x : mX) : Option Int32 := (if m_in ((p1 * (8 : Int32)) + p2) 64 = true then (some (x.1 237 ((p1 * (8 : Int32)) + p2).toNatClampNeg)) else none)
set_option maxRecDepth 20000 in
set_option maxHeartbeats 2000000 in
theorem f_X7_ownOf_snd {fm : Value} {L : Nat} {xs : Nat → Int32} (p1 : Int32) (p2 : Int32) (x : mX) (y : mY) : mS fm L xs (fun r : Int32 => (.int r, (mk x y))) pg_X7_ownOf 0 (m_entry [.ref 234, .int p1, .int p2] 3) [] (mk x y) ((f_X7_ownOf p1 p2 x)) := by
  unfold f_X7_ownOf
  refine mS_steps (pc' := 0) (ls' := [.ref 234, .int p1, .int p2]) (st' := []) (mem' := (mk x y)) 0 rfl ?_
  refine mS_steps (pc' := 10) (ls' := [.ref 234, .int p1, .int p2]) (st' := [.int ((p1 * (8 : Int32)) + p2), .ref 237]) (mem' := (mk x y)) 7 rfl ?_
  refine mS_ald (b := 0) (n := 64) (z := (x.1 237 ((p1 * (8 : Int32)) + p2).toNatClampNeg)) rfl (by decide) rfl (by decide) rfl (fun _ => ?_)
  exact mS_reti ⟨_, _, _, _, _, rfl, rfl⟩ rfl
def f_X3_headFrom_L17 (a1 : Int32) (a2 : Int32) : Nat → Int32 → mX → Option Int32
  | 0, _, _ => none
  | n + 1, a3, x => (if (8 : Int32) ≤ a3 then (some (-1 : Int32)) else (if a3 = a1 then (f_X3_headFrom_L17 a1 a2 n (a3 + (1 : Int32)) x) else (if m_in a1 8 = true then (if (f_X10_has (x.1 233 a1.toNatClampNeg) a3) = 0 then (f_X3_headFrom_L17 a1 a2 n (a3 + (1 : Int32)) x) else ((f_X3_without 228 a3 a1 x).bind fun q1 => (if (f_X10_has q1 a2) = 0 then (some a3) else (f_X3_headFrom_L17 a1 a2 n (a3 + (1 : Int32)) x)))) else none)))
def f_X3_headFrom (p1 : Int32) (p2 : Int32) (x : mX) : Option Int32 := (if m_in p1 8 = true then (if (f_X10_has (x.1 233 p1.toNatClampNeg) p2) = 0 then (f_X3_headFrom_L17 p1 p2 mF (0 : Int32) x) else (some p2)) else none)
set_option maxRecDepth 20000 in
set_option maxHeartbeats 2000000 in
theorem f_X3_headFrom_L17_snd {fm : Value} {L : Nat} {xs : Nat → Int32} (a1 : Int32) (a2 : Int32) (x : mX) (y : mY) : ∀ (n : Nat) (a3 : Int32), mS fm L xs (fun r : Int32 => (.int r, (mk x y))) pg_X3_headFrom 17 [.ref 228, .int a1, .int a2, .int a3] [] (mk x y) (f_X3_headFrom_L17 a1 a2 n a3 x) := by
  intro n
  induction n with
  | zero => intro a3; exact mS_none
  | succ n ih =>
    intro a3
    rw [f_X3_headFrom_L17]
    refine mS_steps (pc' := 20) (ls' := [.ref 228, .int a1, .int a2, .int a3]) (st' := [.int (8 : Int32), .int a3]) (mem' := (mk x y)) 2 rfl ?_
    refine mS_ic3 rfl (fun _ => ?_) (fun _ => ?_)
    · refine mS_steps (pc' := 63) (ls' := [.ref 228, .int a1, .int a2, .int a3]) (st' := [.int (-1 : Int32)]) (mem' := (mk x y)) 1 rfl ?_
      exact mS_reti ⟨_, _, _, _, _, rfl, rfl⟩ rfl
    · refine mS_steps (pc' := 25) (ls' := [.ref 228, .int a1, .int a2, .int a3]) (st' := [.int a1, .int a3]) (mem' := (mk x y)) 2 rfl ?_
      refine mS_ic0 rfl (fun _ => ?_) (fun _ => ?_)
      · refine mS_steps (pc' := 17) (ls' := [.ref 228, .int a1, .int a2, .int (a3 + (1 : Int32))]) (st' := []) (mem' := (mk x y)) 2 rfl ?_
        exact ih (a3 + (1 : Int32))
      · refine mS_steps (pc' := 33) (ls' := [.ref 228, .int a1, .int a2, .int a3]) (st' := [.int a1, .ref 233]) (mem' := (mk x y)) 3 rfl ?_
        refine mS_ald (b := 0) (n := 8) (z := (x.1 233 a1.toNatClampNeg)) rfl (by decide) rfl (by decide) rfl (fun _ => ?_)
        refine mS_steps (pc' := 35) (ls' := [.ref 228, .int a1, .int a2, .int a3]) (st' := [.int a3, .int (x.1 233 a1.toNatClampNeg)]) (mem' := (mk x y)) 1 rfl ?_
        refine mS_call (q := (f_X10_has (x.1 233 a1.toNatClampNeg) a3)) 57 2 [.int (x.1 233 a1.toNatClampNeg), .int a3] [] rfl rfl rfl ⟨_, _, _, rfl, rfl⟩ (Nat.le_of_ble_eq_true rfl) (Nat.le_of_ble_eq_true rfl) rfl (f_X10_has_snd (x.1 233 a1.toNatClampNeg) a3 (mk x y)) ?_
        refine mS_steps (pc' := 38) (ls' := [.ref 228, .int a1, .int a2, .int a3]) (st' := [.int (f_X10_has (x.1 233 a1.toNatClampNeg) a3)]) (mem' := (mk x y)) 0 rfl ?_
        refine mS_if0 rfl (fun _ => ?_) (fun _ => ?_)
        · refine mS_steps (pc' := 17) (ls' := [.ref 228, .int a1, .int a2, .int (a3 + (1 : Int32))]) (st' := []) (mem' := (mk x y)) 2 rfl ?_
          exact ih (a3 + (1 : Int32))
        · refine mS_steps (pc' := 44) (ls' := [.ref 228, .int a1, .int a2, .int a3]) (st' := [.int a1, .int a3, .ref 228]) (mem' := (mk x y)) 3 rfl ?_
          refine mS_bind (fun q1 hq1 => mS_call 115 3 [.ref 228, .int a3, .int a1] [] rfl rfl rfl ⟨_, _, _, rfl, rfl⟩ (Nat.le_of_ble_eq_true rfl) (Nat.le_of_ble_eq_true rfl) hq1 (f_X3_without_228_snd a3 a1 x y) ?_)
          refine mS_steps (pc' := 48) (ls' := [.ref 228, .int a1, .int a2, .int a3]) (st' := [.int a2, .int q1]) (mem' := (mk x y)) 1 rfl ?_
          refine mS_call (q := (f_X10_has q1 a2)) 57 2 [.int q1, .int a2] [] rfl rfl rfl ⟨_, _, _, rfl, rfl⟩ (Nat.le_of_ble_eq_true rfl) (Nat.le_of_ble_eq_true rfl) rfl (f_X10_has_snd q1 a2 (mk x y)) ?_
          refine mS_steps (pc' := 51) (ls' := [.ref 228, .int a1, .int a2, .int a3]) (st' := [.int (f_X10_has q1 a2)]) (mem' := (mk x y)) 0 rfl ?_
          refine mS_if1 rfl (fun _ => ?_) (fun _ => ?_)
          · refine mS_steps (pc' := 55) (ls' := [.ref 228, .int a1, .int a2, .int a3]) (st' := [.int a3]) (mem' := (mk x y)) 1 rfl ?_
            exact mS_reti ⟨_, _, _, _, _, rfl, rfl⟩ rfl
          · refine mS_steps (pc' := 17) (ls' := [.ref 228, .int a1, .int a2, .int (a3 + (1 : Int32))]) (st' := []) (mem' := (mk x y)) 2 rfl ?_
            exact ih (a3 + (1 : Int32))
set_option maxRecDepth 20000 in
set_option maxHeartbeats 2000000 in
theorem f_X3_headFrom_snd {fm : Value} {L : Nat} {xs : Nat → Int32} (p1 : Int32) (p2 : Int32) (x : mX) (y : mY) : mS fm L xs (fun r : Int32 => (.int r, (mk x y))) pg_X3_headFrom 0 (m_entry [.ref 228, .int p1, .int p2] 4) [] (mk x y) ((f_X3_headFrom p1 p2 x)) := by
  unfold f_X3_headFrom
  refine mS_steps (pc' := 0) (ls' := [.ref 228, .int p1, .int p2, mU]) (st' := []) (mem' := (mk x y)) 0 rfl ?_
  refine mS_steps (pc' := 5) (ls' := [.ref 228, .int p1, .int p2, mU]) (st' := [.int p1, .ref 233]) (mem' := (mk x y)) 3 rfl ?_
  refine mS_ald (b := 0) (n := 8) (z := (x.1 233 p1.toNatClampNeg)) rfl (by decide) rfl (by decide) rfl (fun _ => ?_)
  refine mS_steps (pc' := 7) (ls' := [.ref 228, .int p1, .int p2, mU]) (st' := [.int p2, .int (x.1 233 p1.toNatClampNeg)]) (mem' := (mk x y)) 1 rfl ?_
  refine mS_call (q := (f_X10_has (x.1 233 p1.toNatClampNeg) p2)) 57 2 [.int (x.1 233 p1.toNatClampNeg), .int p2] [] rfl rfl rfl ⟨_, _, _, rfl, rfl⟩ (Nat.le_of_ble_eq_true rfl) (Nat.le_of_ble_eq_true rfl) rfl (f_X10_has_snd (x.1 233 p1.toNatClampNeg) p2 (mk x y)) ?_
  refine mS_steps (pc' := 10) (ls' := [.ref 228, .int p1, .int p2, mU]) (st' := [.int (f_X10_has (x.1 233 p1.toNatClampNeg) p2)]) (mem' := (mk x y)) 0 rfl ?_
  refine mS_if0 rfl (fun _ => ?_) (fun _ => ?_)
  · refine mS_steps (pc' := 17) (ls' := [.ref 228, .int p1, .int p2, .int (0 : Int32)]) (st' := []) (mem' := (mk x y)) 2 rfl ?_
    refine f_X3_headFrom_L17_snd p1 p2 x y mF (0 : Int32)
  · refine mS_steps (pc' := 14) (ls' := [.ref 228, .int p1, .int p2, mU]) (st' := [.int p2]) (mem' := (mk x y)) 1 rfl ?_
    exact mS_reti ⟨_, _, _, _, _, rfl, rfl⟩ rfl
def f_X3_blockOf (r0 : Nat) (p1 : Int32) (p2 : Int32) (x : mX) : Option Int32 := (if m_in p1 8 = true then (if m_in p2 8 = true then (some ((x.1 (r0 + 5) p1.toNatClampNeg) &&& (x.1 (r0 + 5) p2.toNatClampNeg))) else none) else none)
set_option maxRecDepth 20000 in
set_option maxHeartbeats 2000000 in
theorem f_X3_blockOf_228_snd {fm : Value} {L : Nat} {xs : Nat → Int32} (p1 : Int32) (p2 : Int32) (x : mX) (y : mY) : mS fm L xs (fun r : Int32 => (.int r, (mk x y))) pg_X3_blockOf 0 (m_entry [.ref 228, .int p1, .int p2] 3) [] (mk x y) ((f_X3_blockOf 228 p1 p2 x)) := by
  unfold f_X3_blockOf
  refine mS_steps (pc' := 0) (ls' := [.ref 228, .int p1, .int p2]) (st' := []) (mem' := (mk x y)) 0 rfl ?_
  refine mS_steps (pc' := 5) (ls' := [.ref 228, .int p1, .int p2]) (st' := [.int p1, .ref 233]) (mem' := (mk x y)) 3 rfl ?_
  refine mS_ald (b := 0) (n := 8) (z := (x.1 (228 + 5) p1.toNatClampNeg)) rfl (by decide) rfl (by decide) rfl (fun _ => ?_)
  refine mS_steps (pc' := 11) (ls' := [.ref 228, .int p1, .int p2]) (st' := [.int p2, .ref 233, .int (x.1 (228 + 5) p1.toNatClampNeg)]) (mem' := (mk x y)) 3 rfl ?_
  refine mS_ald (b := 0) (n := 8) (z := (x.1 (228 + 5) p2.toNatClampNeg)) rfl (by decide) rfl (by decide) rfl (fun _ => ?_)
  refine mS_steps (pc' := 13) (ls' := [.ref 228, .int p1, .int p2]) (st' := [.int ((x.1 (228 + 5) p1.toNatClampNeg) &&& (x.1 (228 + 5) p2.toNatClampNeg))]) (mem' := (mk x y)) 1 rfl ?_
  exact mS_reti ⟨_, _, _, _, _, rfl, rfl⟩ rfl
set_option maxRecDepth 20000 in
set_option maxHeartbeats 2000000 in
theorem f_X3_blockOf_222_snd {fm : Value} {L : Nat} {xs : Nat → Int32} (p1 : Int32) (p2 : Int32) (x : mX) (y : mY) : mS fm L xs (fun r : Int32 => (.int r, (mk x y))) pg_X3_blockOf 0 (m_entry [.ref 222, .int p1, .int p2] 3) [] (mk x y) ((f_X3_blockOf 222 p1 p2 x)) := by
  unfold f_X3_blockOf
  refine mS_steps (pc' := 0) (ls' := [.ref 222, .int p1, .int p2]) (st' := []) (mem' := (mk x y)) 0 rfl ?_
  refine mS_steps (pc' := 5) (ls' := [.ref 222, .int p1, .int p2]) (st' := [.int p1, .ref 227]) (mem' := (mk x y)) 3 rfl ?_
  refine mS_ald (b := 0) (n := 8) (z := (x.1 (222 + 5) p1.toNatClampNeg)) rfl (by decide) rfl (by decide) rfl (fun _ => ?_)
  refine mS_steps (pc' := 11) (ls' := [.ref 222, .int p1, .int p2]) (st' := [.int p2, .ref 227, .int (x.1 (222 + 5) p1.toNatClampNeg)]) (mem' := (mk x y)) 3 rfl ?_
  refine mS_ald (b := 0) (n := 8) (z := (x.1 (222 + 5) p2.toNatClampNeg)) rfl (by decide) rfl (by decide) rfl (fun _ => ?_)
  refine mS_steps (pc' := 13) (ls' := [.ref 222, .int p1, .int p2]) (st' := [.int ((x.1 (222 + 5) p1.toNatClampNeg) &&& (x.1 (222 + 5) p2.toNatClampNeg))]) (mem' := (mk x y)) 1 rfl ?_
  exact mS_reti ⟨_, _, _, _, _, rfl, rfl⟩ rfl
def f_X10_lowest_L2 (a0 : Int32) : Nat → Int32 → Option Int32
  | 0, _ => none
  | n + 1, a1 => (if (8 : Int32) ≤ a1 then (some (-1 : Int32)) else (if ((a0 >>> (a1 &&& 31)) &&& (1 : Int32)) = 0 then (f_X10_lowest_L2 a0 n (a1 + (1 : Int32))) else (some a1)))
def f_X10_lowest (p0 : Int32) : Option Int32 := (f_X10_lowest_L2 p0 mF (0 : Int32))
set_option maxRecDepth 20000 in
set_option maxHeartbeats 2000000 in
theorem f_X10_lowest_L2_snd {fm : Value} {L : Nat} {xs : Nat → Int32} (a0 : Int32) (mem : mM) : ∀ (n : Nat) (a1 : Int32), mS fm L xs (fun r : Int32 => (.int r, mem)) pg_X10_lowest 2 [.int a0, .int a1] [] mem (f_X10_lowest_L2 a0 n a1) := by
  intro n
  induction n with
  | zero => intro a1; exact mS_none
  | succ n ih =>
    intro a1
    rw [f_X10_lowest_L2]
    refine mS_steps (pc' := 5) (ls' := [.int a0, .int a1]) (st' := [.int (8 : Int32), .int a1]) (mem' := mem) 2 rfl ?_
    refine mS_ic3 rfl (fun _ => ?_) (fun _ => ?_)
    · refine mS_steps (pc' := 25) (ls' := [.int a0, .int a1]) (st' := [.int (-1 : Int32)]) (mem' := mem) 1 rfl ?_
      exact mS_reti ⟨_, _, _, _, _, rfl, rfl⟩ rfl
    · refine mS_steps (pc' := 13) (ls' := [.int a0, .int a1]) (st' := [.int ((a0 >>> (a1 &&& 31)) &&& (1 : Int32))]) (mem' := mem) 5 rfl ?_
      refine mS_if0 rfl (fun _ => ?_) (fun _ => ?_)
      · refine mS_steps (pc' := 2) (ls' := [.int a0, .int (a1 + (1 : Int32))]) (st' := []) (mem' := mem) 2 rfl ?_
        exact ih (a1 + (1 : Int32))
      · refine mS_steps (pc' := 17) (ls' := [.int a0, .int a1]) (st' := [.int a1]) (mem' := mem) 1 rfl ?_
        exact mS_reti ⟨_, _, _, _, _, rfl, rfl⟩ rfl
set_option maxRecDepth 20000 in
set_option maxHeartbeats 2000000 in
theorem f_X10_lowest_snd {fm : Value} {L : Nat} {xs : Nat → Int32} (p0 : Int32) (mem : mM) : mS fm L xs (fun r : Int32 => (.int r, mem)) pg_X10_lowest 0 (m_entry [.int p0] 2) [] mem ((f_X10_lowest p0)) := by
  unfold f_X10_lowest
  refine mS_steps (pc' := 0) (ls' := [.int p0, mU]) (st' := []) (mem' := mem) 0 rfl ?_
  refine mS_steps (pc' := 2) (ls' := [.int p0, .int (0 : Int32)]) (st' := []) (mem' := mem) 2 rfl ?_
  refine f_X10_lowest_L2_snd p0 mem mF (0 : Int32)
def f_X3_lastOf (p1 : Int32) (p2 : Int32) (x : mX) : Option Int32 := (if p2 = (-1 : Int32) then (some (-1 : Int32)) else (if m_in p2 8 = true then ((f_X10_lowest ((x.1 229 p2.toNatClampNeg) &&& p1)).bind fun q1 => (some q1)) else none))
set_option maxRecDepth 20000 in
set_option maxHeartbeats 2000000 in
theorem f_X3_lastOf_snd {fm : Value} {L : Nat} {xs : Nat → Int32} (p1 : Int32) (p2 : Int32) (x : mX) (y : mY) : mS fm L xs (fun r : Int32 => (.int r, (mk x y))) pg_X3_lastOf 0 (m_entry [.ref 228, .int p1, .int p2] 3) [] (mk x y) ((f_X3_lastOf p1 p2 x)) := by
  unfold f_X3_lastOf
  refine mS_steps (pc' := 0) (ls' := [.ref 228, .int p1, .int p2]) (st' := []) (mem' := (mk x y)) 0 rfl ?_
  refine mS_steps (pc' := 2) (ls' := [.ref 228, .int p1, .int p2]) (st' := [.int (-1 : Int32), .int p2]) (mem' := (mk x y)) 2 rfl ?_
  refine mS_ic1 rfl (fun _ => ?_) (fun _ => ?_)
  · refine mS_steps (pc' := 20) (ls' := [.ref 228, .int p1, .int p2]) (st' := [.int (-1 : Int32)]) (mem' := (mk x y)) 2 rfl ?_
    exact mS_reti ⟨_, _, _, _, _, rfl, rfl⟩ rfl
  · refine mS_steps (pc' := 14) (ls' := [.ref 228, .int p1, .int p2]) (st' := [.int p2, .ref 229]) (mem' := (mk x y)) 3 rfl ?_
    refine mS_ald (b := 0) (n := 8) (z := (x.1 229 p2.toNatClampNeg)) rfl (by decide) rfl (by decide) rfl (fun _ => ?_)
    refine mS_steps (pc' := 17) (ls' := [.ref 228, .int p1, .int p2]) (st' := [.int ((x.1 229 p2.toNatClampNeg) &&& p1)]) (mem' := (mk x y)) 2 rfl ?_
    refine mS_bind (fun q1 hq1 => mS_call 126 1 [.int ((x.1 229 p2.toNatClampNeg) &&& p1)] [] rfl rfl rfl ⟨_, _, _, rfl, rfl⟩ (Nat.le_of_ble_eq_true rfl) (Nat.le_of_ble_eq_true rfl) hq1 (f_X10_lowest_snd ((x.1 229 p2.toNatClampNeg) &&& p1) (mk x y)) ?_)
    refine mS_steps (pc' := 20) (ls' := [.ref 228, .int p1, .int p2]) (st' := [.int q1]) (mem' := (mk x y)) 0 rfl ?_
    exact mS_reti ⟨_, _, _, _, _, rfl, rfl⟩ rfl
def f_X7_putRow (p1 : Int32) (x : mX) : Option mX := (if (x.1 234 0) < 0 then (some x) else (if (8 : Int32) ≤ (x.1 234 0) then (some x) else (if m_in (x.1 234 0) 8 = true then (m_let (m_xs x 235 (x.1 234 0).toNatClampNeg p1) fun x1 => (m_let (m_xs x1 234 0 ((x1.1 234 0) + (1 : Int32))) fun x2 => (some x2))) else none)))
set_option maxRecDepth 20000 in
set_option maxHeartbeats 2000000 in
theorem f_X7_putRow_snd {fm : Value} {L : Nat} {xs : Nat → Int32} (p1 : Int32) (x : mX) (y : mY) : mS fm L xs (fun r : mX => (mU, mk r y)) pg_X7_putRow 0 (m_entry [.ref 234, .int p1] 2) [] (mk x y) ((f_X7_putRow p1 x)) := by
  unfold f_X7_putRow
  refine mS_steps (pc' := 0) (ls' := [.ref 234, .int p1]) (st' := []) (mem' := (mk x y)) 0 rfl ?_
  refine mS_steps (pc' := 4) (ls' := [.ref 234, .int p1]) (st' := [.int (x.1 234 0)]) (mem' := (mk x y)) 2 rfl ?_
  refine mS_if2 rfl (fun _ => ?_) (fun _ => ?_)
  · exact mS_retv ⟨_, _, _, _, _, rfl⟩ rfl
  · refine mS_steps (pc' := 13) (ls' := [.ref 234, .int p1]) (st' := [.int (8 : Int32), .int (x.1 234 0)]) (mem' := (mk x y)) 3 rfl ?_
    refine mS_ic3 rfl (fun _ => ?_) (fun _ => ?_)
    · exact mS_retv ⟨_, _, _, _, _, rfl⟩ rfl
    · refine mS_steps (pc' := 25) (ls' := [.ref 234, .int p1]) (st' := [.int p1, .int (x.1 234 0), .ref 235]) (mem' := (mk x y)) 5 rfl ?_
      refine mS_ast0x (n := 8) rfl rfl (by decide) (fun _ => ?_)
      refine mS_letx (fun x1 => ?_)
      refine mS_steps (pc' := 33) (ls' := [.ref 234, .int p1]) (st' := [.int ((x1.1 234 0) + (1 : Int32)), .ref 234]) (mem' := (mk x1 y)) 5 rfl ?_
      refine mS_putx rfl rfl (by decide) rfl ?_
      refine mS_letx (fun x2 => ?_)
      exact mS_retv ⟨_, _, _, _, _, rfl⟩ rfl
def f_X7_nextOf_L10 (a2 : Int32) (a3 : Int32) (a4 : Int32) : Nat → Int32 → mX → Option Int32
  | 0, _, _ => none
  | n + 1, a5, x => (if (8 : Int32) ≤ a5 then (some (-1 : Int32)) else (if a5 = a3 then (f_X7_nextOf_L10 a2 a3 a4 n (a5 + (1 : Int32)) x) else (if (f_X10_has a2 a5) = 0 then (f_X7_nextOf_L10 a2 a3 a4 n (a5 + (1 : Int32)) x) else (if m_in a5 8 = true then (if ((x.1 229 a5.toNatClampNeg) &&& a4) = 0 then (f_X7_nextOf_L10 a2 a3 a4 n (a5 + (1 : Int32)) x) else ((f_X10_reach 229 a3 (a2 &&& (((1 : Int32) <<< (a5 &&& 31)) ^^^ (-1 : Int32))) x).bind fun q1 => (if q1 = (a2 &&& (((1 : Int32) <<< (a5 &&& 31)) ^^^ (-1 : Int32))) then (some a5) else (f_X7_nextOf_L10 a2 a3 a4 n (a5 + (1 : Int32)) x)))) else none))))
def f_X7_nextOf (p1 : Int32) (p2 : Int32) (p3 : Int32) (x : mX) : Option Int32 := (f_X7_nextOf_L10 p2 p3 (p1 &&& (p2 ^^^ (-1 : Int32))) mF (0 : Int32) x)
set_option maxRecDepth 20000 in
set_option maxHeartbeats 2000000 in
theorem f_X7_nextOf_L10_snd {fm : Value} {L : Nat} {xs : Nat → Int32} (a2 : Int32) (a3 : Int32) (a4 : Int32) (x : mX) (y : mY) : ∀ (n : Nat) (a5 : Int32), mS fm L xs (fun r : Int32 => (.int r, (mk x y))) pg_X7_nextOf 10 [.ref 228, mU, .int a2, .int a3, .int a4, .int a5, mU] [] (mk x y) (f_X7_nextOf_L10 a2 a3 a4 n a5 x) := by
  intro n
  induction n with
  | zero => intro a5; exact mS_none
  | succ n ih =>
    intro a5
    rw [f_X7_nextOf_L10]
    refine mS_steps (pc' := 14) (ls' := [.ref 228, mU, .int a2, .int a3, .int a4, .int a5, mU]) (st' := [.int (8 : Int32), .int a5]) (mem' := (mk x y)) 2 rfl ?_
    refine mS_ic3 rfl (fun _ => ?_) (fun _ => ?_)
    · refine mS_steps (pc' := 80) (ls' := [.ref 228, mU, .int a2, .int a3, .int a4, .int a5, mU]) (st' := [.int (-1 : Int32)]) (mem' := (mk x y)) 1 rfl ?_
      exact mS_reti ⟨_, _, _, _, _, rfl, rfl⟩ rfl
    · refine mS_steps (pc' := 20) (ls' := [.ref 228, mU, .int a2, .int a3, .int a4, .int a5, mU]) (st' := [.int a3, .int a5]) (mem' := (mk x y)) 2 rfl ?_
      refine mS_ic0 rfl (fun _ => ?_) (fun _ => ?_)
      · refine mS_steps (pc' := 10) (ls' := [.ref 228, mU, .int a2, .int a3, .int a4, .int (a5 + (1 : Int32)), mU]) (st' := []) (mem' := (mk x y)) 2 rfl ?_
        exact ih (a5 + (1 : Int32))
      · refine mS_steps (pc' := 26) (ls' := [.ref 228, mU, .int a2, .int a3, .int a4, .int a5, mU]) (st' := [.int a5, .int a2]) (mem' := (mk x y)) 2 rfl ?_
        refine mS_call (q := (f_X10_has a2 a5)) 57 2 [.int a2, .int a5] [] rfl rfl rfl ⟨_, _, _, rfl, rfl⟩ (Nat.le_of_ble_eq_true rfl) (Nat.le_of_ble_eq_true rfl) rfl (f_X10_has_snd a2 a5 (mk x y)) ?_
        refine mS_steps (pc' := 29) (ls' := [.ref 228, mU, .int a2, .int a3, .int a4, .int a5, mU]) (st' := [.int (f_X10_has a2 a5)]) (mem' := (mk x y)) 0 rfl ?_
        refine mS_if0 rfl (fun _ => ?_) (fun _ => ?_)
        · refine mS_steps (pc' := 10) (ls' := [.ref 228, mU, .int a2, .int a3, .int a4, .int (a5 + (1 : Int32)), mU]) (st' := []) (mem' := (mk x y)) 2 rfl ?_
          exact ih (a5 + (1 : Int32))
        · refine mS_steps (pc' := 38) (ls' := [.ref 228, mU, .int a2, .int a3, .int a4, .int a5, mU]) (st' := [.int a5, .ref 229]) (mem' := (mk x y)) 3 rfl ?_
          refine mS_ald (b := 0) (n := 8) (z := (x.1 229 a5.toNatClampNeg)) rfl (by decide) rfl (by decide) rfl (fun _ => ?_)
          refine mS_steps (pc' := 42) (ls' := [.ref 228, mU, .int a2, .int a3, .int a4, .int a5, mU]) (st' := [.int ((x.1 229 a5.toNatClampNeg) &&& a4)]) (mem' := (mk x y)) 2 rfl ?_
          refine mS_if0 rfl (fun _ => ?_) (fun _ => ?_)
          · refine mS_steps (pc' := 10) (ls' := [.ref 228, mU, .int a2, .int a3, .int a4, .int (a5 + (1 : Int32)), mU]) (st' := []) (mem' := (mk x y)) 2 rfl ?_
            exact ih (a5 + (1 : Int32))
          · refine mS_steps (pc' := 62) (ls' := [.ref 228, mU, .int a2, .int a3, .int a4, .int a5, .int (a2 &&& (((1 : Int32) <<< (a5 &&& 31)) ^^^ (-1 : Int32)))]) (st' := [.int (a2 &&& (((1 : Int32) <<< (a5 &&& 31)) ^^^ (-1 : Int32))), .int a3, .ref 229]) (mem' := (mk x y)) 12 rfl ?_
            refine mS_bind (fun q1 hq1 => mS_call 112 3 [.ref 229, .int a3, .int (a2 &&& (((1 : Int32) <<< (a5 &&& 31)) ^^^ (-1 : Int32)))] [] rfl rfl rfl ⟨_, _, _, rfl, rfl⟩ (Nat.le_of_ble_eq_true rfl) (Nat.le_of_ble_eq_true rfl) hq1 (f_X10_reach_229_snd a3 (a2 &&& (((1 : Int32) <<< (a5 &&& 31)) ^^^ (-1 : Int32))) x y) ?_)
            refine mS_steps (pc' := 67) (ls' := [.ref 228, mU, .int a2, .int a3, .int a4, .int a5, .int (a2 &&& (((1 : Int32) <<< (a5 &&& 31)) ^^^ (-1 : Int32)))]) (st' := [.int (a2 &&& (((1 : Int32) <<< (a5 &&& 31)) ^^^ (-1 : Int32))), .int q1]) (mem' := (mk x y)) 1 rfl ?_
            refine mS_ic1 rfl (fun _ => ?_) (fun _ => ?_)
            · refine mS_steps (pc' := 72) (ls' := [.ref 228, mU, .int a2, .int a3, .int a4, .int a5, .int (a2 &&& (((1 : Int32) <<< (a5 &&& 31)) ^^^ (-1 : Int32)))]) (st' := [.int a5]) (mem' := (mk x y)) 1 rfl ?_
              exact mS_reti ⟨_, _, _, _, _, rfl, rfl⟩ rfl
            · refine mS_steps (pc' := 10) (ls' := [.ref 228, mU, .int a2, .int a3, .int a4, .int (a5 + (1 : Int32)), .int (a2 &&& (((1 : Int32) <<< (a5 &&& 31)) ^^^ (-1 : Int32)))]) (st' := []) (mem' := (mk x y)) 2 rfl ?_
              refine mS_forget [.ref 228, mU, .int a2, .int a3, .int a4, .int (a5 + (1 : Int32)), mU] ⟨Or.inr rfl, Or.inl rfl, Or.inr rfl, Or.inr rfl, Or.inr rfl, Or.inr rfl, Or.inl rfl, trivial⟩ ?_
              exact ih (a5 + (1 : Int32))
set_option maxRecDepth 20000 in
set_option maxHeartbeats 2000000 in
theorem f_X7_nextOf_snd {fm : Value} {L : Nat} {xs : Nat → Int32} (p1 : Int32) (p2 : Int32) (p3 : Int32) (x : mX) (y : mY) : mS fm L xs (fun r : Int32 => (.int r, (mk x y))) pg_X7_nextOf 0 (m_entry [.ref 228, .int p1, .int p2, .int p3] 7) [] (mk x y) ((f_X7_nextOf p1 p2 p3 x)) := by
  unfold f_X7_nextOf
  refine mS_steps (pc' := 0) (ls' := [.ref 228, .int p1, .int p2, .int p3, mU, mU, mU]) (st' := []) (mem' := (mk x y)) 0 rfl ?_
  refine mS_steps (pc' := 10) (ls' := [.ref 228, .int p1, .int p2, .int p3, .int (p1 &&& (p2 ^^^ (-1 : Int32))), .int (0 : Int32), mU]) (st' := []) (mem' := (mk x y)) 8 rfl ?_
  refine mS_forget [.ref 228, mU, .int p2, .int p3, .int (p1 &&& (p2 ^^^ (-1 : Int32))), .int (0 : Int32), mU] ⟨Or.inr rfl, Or.inl rfl, Or.inr rfl, Or.inr rfl, Or.inr rfl, Or.inr rfl, Or.inl rfl, trivial⟩ ?_
  refine f_X7_nextOf_L10_snd p2 p3 (p1 &&& (p2 ^^^ (-1 : Int32))) x y mF (0 : Int32)
def f_X7_arrange_L42 (a2 : Int32) (a4 : Int32) : Nat → Int32 → Int32 → mX → Option mX
  | 0, _, _, _ => none
  | n + 1, a5, a6, x => (if (8 : Int32) ≤ a6 then ((f_X7_putRow a4 x).bind fun q4 => (some q4)) else ((f_X7_nextOf a2 a5 a4 x).bind fun q5 => (if q5 = (-1 : Int32) then ((f_X7_putRow a4 x).bind fun q6 => (some q6)) else ((f_X7_putRow q5 x).bind fun q7 => (f_X7_arrange_L42 a2 a4 n (a5 &&& (((1 : Int32) <<< (q5 &&& 31)) ^^^ (-1 : Int32))) (a6 + (1 : Int32)) q7)))))
def f_X7_arrange (p2 : Int32) (p3 : Int32) (x : mX) : Option mX := (m_let (m_xs x 234 0 (0 : Int32)) fun x1 => ((f_X3_lastOf p2 p3 x1).bind fun q2 => (if p3 = (-1 : Int32) then (some x1) else (if q2 = (-1 : Int32) then (some x1) else ((f_X7_putRow p3 x1).bind fun q3 => (f_X7_arrange_L42 p2 q2 mF (p2 &&& (((1 : Int32) <<< (p3 &&& 31)) ^^^ (-1 : Int32))) (2 : Int32) q3))))))
set_option maxRecDepth 20000 in
set_option maxHeartbeats 2000000 in
theorem f_X7_arrange_L42_snd {fm : Value} {L : Nat} {xs : Nat → Int32} (a2 : Int32) (a4 : Int32) (y : mY) : ∀ (n : Nat) (a5 : Int32) (a6 : Int32) (x : mX), mS fm L xs (fun r : mX => (mU, mk r y)) pg_X7_arrange 42 [.ref 234, .ref 228, .int a2, mU, .int a4, .int a5, .int a6, mU] [] (mk x y) (f_X7_arrange_L42 a2 a4 n a5 a6 x) := by
  intro n
  induction n with
  | zero => intro a5 a6 x; exact mS_none
  | succ n ih =>
    intro a5 a6 x
    rw [f_X7_arrange_L42]
    refine mS_steps (pc' := 46) (ls' := [.ref 234, .ref 228, .int a2, mU, .int a4, .int a5, .int a6, mU]) (st' := [.int (8 : Int32), .int a6]) (mem' := (mk x y)) 2 rfl ?_
    refine mS_ic3 rfl (fun _ => ?_) (fun _ => ?_)
    · refine mS_steps (pc' := 95) (ls' := [.ref 234, .ref 228, .int a2, mU, .int a4, .int a5, .int a6, mU]) (st' := [.int a4, .ref 234]) (mem' := (mk x y)) 2 rfl ?_
      refine mS_bind (fun q4 hq4 => mS_call 128 2 [.ref 234, .int a4] [] rfl rfl rfl ⟨_, _, _, rfl, rfl⟩ (Nat.le_of_ble_eq_true rfl) (Nat.le_of_ble_eq_true rfl) hq4 (f_X7_putRow_snd a4 x y) ?_)
      refine mS_steps (pc' := 98) (ls' := [.ref 234, .ref 228, .int a2, mU, .int a4, .int a5, .int a6, mU]) (st' := []) (mem' := (mk q4 y)) 0 rfl ?_
      exact mS_retv ⟨_, _, _, _, _, rfl⟩ rfl
    · refine mS_steps (pc' := 55) (ls' := [.ref 234, .ref 228, .int a2, mU, .int a4, .int a5, .int a6, mU]) (st' := [.int a4, .int a5, .int a2, .ref 228]) (mem' := (mk x y)) 4 rfl ?_
      refine mS_bind (fun q5 hq5 => mS_call 129 4 [.ref 228, .int a2, .int a5, .int a4] [] rfl rfl rfl ⟨_, _, _, rfl, rfl⟩ (Nat.le_of_ble_eq_true rfl) (Nat.le_of_ble_eq_true rfl) hq5 (f_X7_nextOf_snd a2 a5 a4 x y) ?_)
      refine mS_steps (pc' := 63) (ls' := [.ref 234, .ref 228, .int a2, mU, .int a4, .int a5, .int a6, .int q5]) (st' := [.int (-1 : Int32), .int q5]) (mem' := (mk x y)) 3 rfl ?_
      refine mS_ic1 rfl (fun _ => ?_) (fun _ => ?_)
      · refine mS_steps (pc' := 95) (ls' := [.ref 234, .ref 228, .int a2, mU, .int a4, .int a5, .int a6, .int q5]) (st' := [.int a4, .ref 234]) (mem' := (mk x y)) 3 rfl ?_
        refine mS_bind (fun q6 hq6 => mS_call 128 2 [.ref 234, .int a4] [] rfl rfl rfl ⟨_, _, _, rfl, rfl⟩ (Nat.le_of_ble_eq_true rfl) (Nat.le_of_ble_eq_true rfl) hq6 (f_X7_putRow_snd a4 x y) ?_)
        refine mS_steps (pc' := 98) (ls' := [.ref 234, .ref 228, .int a2, mU, .int a4, .int a5, .int a6, .int q5]) (st' := []) (mem' := (mk q6 y)) 0 rfl ?_
        exact mS_retv ⟨_, _, _, _, _, rfl⟩ rfl
      · refine mS_steps (pc' := 72) (ls' := [.ref 234, .ref 228, .int a2, mU, .int a4, .int a5, .int a6, .int q5]) (st' := [.int q5, .ref 234]) (mem' := (mk x y)) 2 rfl ?_
        refine mS_bind (fun q7 hq7 => mS_call 128 2 [.ref 234, .int q5] [] rfl rfl rfl ⟨_, _, _, rfl, rfl⟩ (Nat.le_of_ble_eq_true rfl) (Nat.le_of_ble_eq_true rfl) hq7 (f_X7_putRow_snd q5 x y) ?_)
        refine mS_steps (pc' := 42) (ls' := [.ref 234, .ref 228, .int a2, mU, .int a4, .int (a5 &&& (((1 : Int32) <<< (q5 &&& 31)) ^^^ (-1 : Int32))), .int (a6 + (1 : Int32)), .int q5]) (st' := []) (mem' := (mk q7 y)) 10 rfl ?_
        refine mS_forget [.ref 234, .ref 228, .int a2, mU, .int a4, .int (a5 &&& (((1 : Int32) <<< (q5 &&& 31)) ^^^ (-1 : Int32))), .int (a6 + (1 : Int32)), mU] ⟨Or.inr rfl, Or.inr rfl, Or.inr rfl, Or.inl rfl, Or.inr rfl, Or.inr rfl, Or.inr rfl, Or.inl rfl, trivial⟩ ?_
        exact ih (a5 &&& (((1 : Int32) <<< (q5 &&& 31)) ^^^ (-1 : Int32))) (a6 + (1 : Int32)) q7
set_option maxRecDepth 20000 in
set_option maxHeartbeats 2000000 in
theorem f_X7_arrange_snd {fm : Value} {L : Nat} {xs : Nat → Int32} (p2 : Int32) (p3 : Int32) (x : mX) (y : mY) : mS fm L xs (fun r : mX => (mU, mk r y)) pg_X7_arrange 0 (m_entry [.ref 234, .ref 228, .int p2, .int p3] 8) [] (mk x y) ((f_X7_arrange p2 p3 x)) := by
  unfold f_X7_arrange
  refine mS_steps (pc' := 0) (ls' := [.ref 234, .ref 228, .int p2, .int p3, mU, mU, mU, mU]) (st' := []) (mem' := (mk x y)) 0 rfl ?_
  refine mS_steps (pc' := 2) (ls' := [.ref 234, .ref 228, .int p2, .int p3, mU, mU, mU, mU]) (st' := [.int (0 : Int32), .ref 234]) (mem' := (mk x y)) 2 rfl ?_
  refine mS_putx rfl rfl (by decide) rfl ?_
  refine mS_letx (fun x1 => ?_)
  refine mS_steps (pc' := 8) (ls' := [.ref 234, .ref 228, .int p2, .int p3, mU, mU, mU, mU]) (st' := [.int p3, .int p2, .ref 228]) (mem' := (mk x1 y)) 3 rfl ?_
  refine mS_bind (fun q2 hq2 => mS_call 127 3 [.ref 228, .int p2, .int p3] [] rfl rfl rfl ⟨_, _, _, rfl, rfl⟩ (Nat.le_of_ble_eq_true rfl) (Nat.le_of_ble_eq_true rfl) hq2 (f_X3_lastOf_snd p2 p3 x1 y) ?_)
  refine mS_steps (pc' := 15) (ls' := [.ref 234, .ref 228, .int p2, .int p3, .int q2, mU, mU, mU]) (st' := [.int (-1 : Int32), .int p3]) (mem' := (mk x1 y)) 3 rfl ?_
  refine mS_ic0 rfl (fun _ => ?_) (fun _ => ?_)
  · exact mS_retv ⟨_, _, _, _, _, rfl⟩ rfl
  · refine mS_steps (pc' := 21) (ls' := [.ref 234, .ref 228, .int p2, .int p3, .int q2, mU, mU, mU]) (st' := [.int (-1 : Int32), .int q2]) (mem' := (mk x1 y)) 2 rfl ?_
    refine mS_ic1 rfl (fun _ => ?_) (fun _ => ?_)
    · exact mS_retv ⟨_, _, _, _, _, rfl⟩ rfl
    · refine mS_steps (pc' := 36) (ls' := [.ref 234, .ref 228, .int p2, .int p3, .int q2, .int (p2 &&& (((1 : Int32) <<< (p3 &&& 31)) ^^^ (-1 : Int32))), mU, mU]) (st' := [.int p3, .ref 234]) (mem' := (mk x1 y)) 10 rfl ?_
      refine mS_bind (fun q3 hq3 => mS_call 128 2 [.ref 234, .int p3] [] rfl rfl rfl ⟨_, _, _, rfl, rfl⟩ (Nat.le_of_ble_eq_true rfl) (Nat.le_of_ble_eq_true rfl) hq3 (f_X7_putRow_snd p3 x1 y) ?_)
      refine mS_steps (pc' := 42) (ls' := [.ref 234, .ref 228, .int p2, .int p3, .int q2, .int (p2 &&& (((1 : Int32) <<< (p3 &&& 31)) ^^^ (-1 : Int32))), .int (2 : Int32), mU]) (st' := []) (mem' := (mk q3 y)) 2 rfl ?_
      refine mS_forget [.ref 234, .ref 228, .int p2, mU, .int q2, .int (p2 &&& (((1 : Int32) <<< (p3 &&& 31)) ^^^ (-1 : Int32))), .int (2 : Int32), mU] ⟨Or.inr rfl, Or.inr rfl, Or.inr rfl, Or.inl rfl, Or.inr rfl, Or.inr rfl, Or.inr rfl, Or.inl rfl, trivial⟩ ?_
      refine f_X7_arrange_L42_snd p2 q2 y mF (p2 &&& (((1 : Int32) <<< (p3 &&& 31)) ^^^ (-1 : Int32))) (2 : Int32) q3
def f_X7_redHop_L32 (a2 : Int32) : Nat → Int32 → mX → Option Int32
  | 0, _, _ => none
  | n + 1, a4, x => (if (x.1 234 0) ≤ a4 then (some (-1 : Int32)) else (if m_in a2 8 = true then (if m_in a4 8 = true then (if (f_X10_has (x.1 229 a2.toNatClampNeg) (x.1 235 a4.toNatClampNeg)) = 0 then (f_X7_redHop_L32 a2 n (a4 + (1 : Int32)) x) else (if m_in a4 8 = true then (some (x.1 235 a4.toNatClampNeg)) else none)) else none) else none))
def f_X7_redHop (p2 : Int32) (x : mX) : Option Int32 := (m_jn (fun _ => (f_X7_redHop_L32 p2 mF (0 : Int32) x)) (fun j1 => if (x.1 234 0) ≤ (2 : Int32) then (j1 ()) else (if m_in ((x.1 234 0) - (1 : Int32)) 8 = true then (if (x.1 235 ((x.1 234 0) - (1 : Int32)).toNatClampNeg) = p2 then (f_X7_redHop_L32 p2 mF (1 : Int32) x) else (j1 ())) else none)))
set_option maxRecDepth 20000 in
set_option maxHeartbeats 2000000 in
theorem f_X7_redHop_L32_snd {fm : Value} {L : Nat} {xs : Nat → Int32} (a2 : Int32) (x : mX) (y : mY) : ∀ (n : Nat) (a4 : Int32), mS fm L xs (fun r : Int32 => (.int r, (mk x y))) pg_X7_redHop 32 [.ref 234, .ref 228, .int a2, mU, .int a4] [] (mk x y) (f_X7_redHop_L32 a2 n a4 x) := by
  intro n
  induction n with
  | zero => intro a4; exact mS_none
  | succ n ih =>
    intro a4
    rw [f_X7_redHop_L32]
    refine mS_steps (pc' := 38) (ls' := [.ref 234, .ref 228, .int a2, mU, .int a4]) (st' := [.int (x.1 234 0), .int a4]) (mem' := (mk x y)) 3 rfl ?_
    refine mS_ic3 rfl (fun _ => ?_) (fun _ => ?_)
    · refine mS_steps (pc' := 75) (ls' := [.ref 234, .ref 228, .int a2, mU, .int a4]) (st' := [.int (-1 : Int32)]) (mem' := (mk x y)) 1 rfl ?_
      exact mS_reti ⟨_, _, _, _, _, rfl, rfl⟩ rfl
    · refine mS_steps (pc' := 46) (ls' := [.ref 234, .ref 228, .int a2, mU, .int a4]) (st' := [.int a2, .ref 229]) (mem' := (mk x y)) 3 rfl ?_
      refine mS_ald (b := 0) (n := 8) (z := (x.1 229 a2.toNatClampNeg)) rfl (by decide) rfl (by decide) rfl (fun _ => ?_)
      refine mS_steps (pc' := 53) (ls' := [.ref 234, .ref 228, .int a2, mU, .int a4]) (st' := [.int a4, .ref 235, .int (x.1 229 a2.toNatClampNeg)]) (mem' := (mk x y)) 3 rfl ?_
      refine mS_ald (b := 0) (n := 8) (z := (x.1 235 a4.toNatClampNeg)) rfl (by decide) rfl (by decide) rfl (fun _ => ?_)
      refine mS_call (q := (f_X10_has (x.1 229 a2.toNatClampNeg) (x.1 235 a4.toNatClampNeg))) 57 2 [.int (x.1 229 a2.toNatClampNeg), .int (x.1 235 a4.toNatClampNeg)] [] rfl rfl rfl ⟨_, _, _, rfl, rfl⟩ (Nat.le_of_ble_eq_true rfl) (Nat.le_of_ble_eq_true rfl) rfl (f_X10_has_snd (x.1 229 a2.toNatClampNeg) (x.1 235 a4.toNatClampNeg) (mk x y)) ?_
      refine mS_steps (pc' := 57) (ls' := [.ref 234, .ref 228, .int a2, mU, .int a4]) (st' := [.int (f_X10_has (x.1 229 a2.toNatClampNeg) (x.1 235 a4.toNatClampNeg))]) (mem' := (mk x y)) 0 rfl ?_
      refine mS_if0 rfl (fun _ => ?_) (fun _ => ?_)
      · refine mS_steps (pc' := 32) (ls' := [.ref 234, .ref 228, .int a2, mU, .int (a4 + (1 : Int32))]) (st' := []) (mem' := (mk x y)) 2 rfl ?_
        exact ih (a4 + (1 : Int32))
      · refine mS_steps (pc' := 66) (ls' := [.ref 234, .ref 228, .int a2, mU, .int a4]) (st' := [.int a4, .ref 235]) (mem' := (mk x y)) 3 rfl ?_
        refine mS_ald (b := 0) (n := 8) (z := (x.1 235 a4.toNatClampNeg)) rfl (by decide) rfl (by decide) rfl (fun _ => ?_)
        exact mS_reti ⟨_, _, _, _, _, rfl, rfl⟩ rfl
set_option maxRecDepth 20000 in
set_option maxHeartbeats 2000000 in
theorem f_X7_redHop_snd {fm : Value} {L : Nat} {xs : Nat → Int32} (p2 : Int32) (x : mX) (y : mY) : mS fm L xs (fun r : Int32 => (.int r, (mk x y))) pg_X7_redHop 0 (m_entry [.ref 234, .ref 228, .int p2] 5) [] (mk x y) ((f_X7_redHop p2 x)) := by
  unfold f_X7_redHop
  refine mS_steps (pc' := 0) (ls' := [.ref 234, .ref 228, .int p2, mU, mU]) (st' := []) (mem' := (mk x y)) 0 rfl ?_
  refine mS_steps (pc' := 5) (ls' := [.ref 234, .ref 228, .int p2, mU, mU]) (st' := [.int (2 : Int32), .int (x.1 234 0)]) (mem' := (mk x y)) 3 rfl ?_
  refine mS_jn (fun j => ∀ z : Unit, mS fm L xs (fun r : Int32 => (.int r, (mk x y))) pg_X7_redHop 27 [.ref 234, .ref 228, .int p2, mU, mU] [] (mk x y) (j z)) ?_ ?_
  · intro z
    refine mS_steps (pc' := 32) (ls' := [.ref 234, .ref 228, .int p2, .int (0 : Int32), .int (0 : Int32)]) (st' := []) (mem' := (mk x y)) 4 rfl ?_
    refine mS_forget [.ref 234, .ref 228, .int p2, mU, .int (0 : Int32)] ⟨Or.inr rfl, Or.inr rfl, Or.inr rfl, Or.inl rfl, Or.inr rfl, trivial⟩ ?_
    refine f_X7_redHop_L32_snd p2 x y mF (0 : Int32)
  intro j1 hj1
  refine mS_ic5 rfl (fun _ => ?_) (fun _ => ?_)
  · exact hj1 ()
  · refine mS_steps (pc' := 18) (ls' := [.ref 234, .ref 228, .int p2, mU, mU]) (st' := [.int ((x.1 234 0) - (1 : Int32)), .ref 235]) (mem' := (mk x y)) 6 rfl ?_
    refine mS_ald (b := 0) (n := 8) (z := (x.1 235 ((x.1 234 0) - (1 : Int32)).toNatClampNeg)) rfl (by decide) rfl (by decide) rfl (fun _ => ?_)
    refine mS_steps (pc' := 20) (ls' := [.ref 234, .ref 228, .int p2, mU, mU]) (st' := [.int p2, .int (x.1 235 ((x.1 234 0) - (1 : Int32)).toNatClampNeg)]) (mem' := (mk x y)) 1 rfl ?_
    refine mS_ic1 rfl (fun _ => ?_) (fun _ => ?_)
    · refine mS_steps (pc' := 32) (ls' := [.ref 234, .ref 228, .int p2, .int (1 : Int32), .int (1 : Int32)]) (st' := []) (mem' := (mk x y)) 5 rfl ?_
      refine mS_forget [.ref 234, .ref 228, .int p2, mU, .int (1 : Int32)] ⟨Or.inr rfl, Or.inr rfl, Or.inr rfl, Or.inl rfl, Or.inr rfl, trivial⟩ ?_
      refine f_X7_redHop_L32_snd p2 x y mF (1 : Int32)
    · exact hj1 ()
def f_X7_blueHop_L36 (a2 : Int32) : Nat → Int32 → mX → Option Int32
  | 0, _, _ => none
  | n + 1, a3, x => (if a3 < 0 then (some (-1 : Int32)) else (if m_in a2 8 = true then (if m_in a3 8 = true then (if (f_X10_has (x.1 229 a2.toNatClampNeg) (x.1 235 a3.toNatClampNeg)) = 0 then (f_X7_blueHop_L36 a2 n (a3 + (-1 : Int32)) x) else (if m_in a3 8 = true then (some (x.1 235 a3.toNatClampNeg)) else none)) else none) else none))
def f_X7_blueHop (p2 : Int32) (x : mX) : Option Int32 := (m_jn (fun _ => (f_X7_blueHop_L36 p2 mF ((x.1 234 0) - (1 : Int32)) x)) (fun j1 => if (x.1 234 0) ≤ 0 then (j1 ()) else (if m_in ((x.1 234 0) - (1 : Int32)) 8 = true then (if (x.1 235 ((x.1 234 0) - (1 : Int32)).toNatClampNeg) = p2 then (some (x.1 235 0)) else (j1 ())) else none)))
set_option maxRecDepth 20000 in
set_option maxHeartbeats 2000000 in
theorem f_X7_blueHop_L36_snd {fm : Value} {L : Nat} {xs : Nat → Int32} (a2 : Int32) (x : mX) (y : mY) : ∀ (n : Nat) (a3 : Int32), mS fm L xs (fun r : Int32 => (.int r, (mk x y))) pg_X7_blueHop 36 [.ref 234, .ref 228, .int a2, .int a3] [] (mk x y) (f_X7_blueHop_L36 a2 n a3 x) := by
  intro n
  induction n with
  | zero => intro a3; exact mS_none
  | succ n ih =>
    intro a3
    rw [f_X7_blueHop_L36]
    refine mS_steps (pc' := 37) (ls' := [.ref 234, .ref 228, .int a2, .int a3]) (st' := [.int a3]) (mem' := (mk x y)) 1 rfl ?_
    refine mS_if2 rfl (fun _ => ?_) (fun _ => ?_)
    · refine mS_steps (pc' := 72) (ls' := [.ref 234, .ref 228, .int a2, .int a3]) (st' := [.int (-1 : Int32)]) (mem' := (mk x y)) 1 rfl ?_
      exact mS_reti ⟨_, _, _, _, _, rfl, rfl⟩ rfl
    · refine mS_steps (pc' := 45) (ls' := [.ref 234, .ref 228, .int a2, .int a3]) (st' := [.int a2, .ref 229]) (mem' := (mk x y)) 3 rfl ?_
      refine mS_ald (b := 0) (n := 8) (z := (x.1 229 a2.toNatClampNeg)) rfl (by decide) rfl (by decide) rfl (fun _ => ?_)
      refine mS_steps (pc' := 51) (ls' := [.ref 234, .ref 228, .int a2, .int a3]) (st' := [.int a3, .ref 235, .int (x.1 229 a2.toNatClampNeg)]) (mem' := (mk x y)) 3 rfl ?_
      refine mS_ald (b := 0) (n := 8) (z := (x.1 235 a3.toNatClampNeg)) rfl (by decide) rfl (by decide) rfl (fun _ => ?_)
      refine mS_call (q := (f_X10_has (x.1 229 a2.toNatClampNeg) (x.1 235 a3.toNatClampNeg))) 57 2 [.int (x.1 229 a2.toNatClampNeg), .int (x.1 235 a3.toNatClampNeg)] [] rfl rfl rfl ⟨_, _, _, rfl, rfl⟩ (Nat.le_of_ble_eq_true rfl) (Nat.le_of_ble_eq_true rfl) rfl (f_X10_has_snd (x.1 229 a2.toNatClampNeg) (x.1 235 a3.toNatClampNeg) (mk x y)) ?_
      refine mS_steps (pc' := 55) (ls' := [.ref 234, .ref 228, .int a2, .int a3]) (st' := [.int (f_X10_has (x.1 229 a2.toNatClampNeg) (x.1 235 a3.toNatClampNeg))]) (mem' := (mk x y)) 0 rfl ?_
      refine mS_if0 rfl (fun _ => ?_) (fun _ => ?_)
      · refine mS_steps (pc' := 36) (ls' := [.ref 234, .ref 228, .int a2, .int (a3 + (-1 : Int32))]) (st' := []) (mem' := (mk x y)) 2 rfl ?_
        exact ih (a3 + (-1 : Int32))
      · refine mS_steps (pc' := 63) (ls' := [.ref 234, .ref 228, .int a2, .int a3]) (st' := [.int a3, .ref 235]) (mem' := (mk x y)) 3 rfl ?_
        refine mS_ald (b := 0) (n := 8) (z := (x.1 235 a3.toNatClampNeg)) rfl (by decide) rfl (by decide) rfl (fun _ => ?_)
        exact mS_reti ⟨_, _, _, _, _, rfl, rfl⟩ rfl
set_option maxRecDepth 20000 in
set_option maxHeartbeats 2000000 in
theorem f_X7_blueHop_snd {fm : Value} {L : Nat} {xs : Nat → Int32} (p2 : Int32) (x : mX) (y : mY) : mS fm L xs (fun r : Int32 => (.int r, (mk x y))) pg_X7_blueHop 0 (m_entry [.ref 234, .ref 228, .int p2] 4) [] (mk x y) ((f_X7_blueHop p2 x)) := by
  unfold f_X7_blueHop
  refine mS_steps (pc' := 0) (ls' := [.ref 234, .ref 228, .int p2, mU]) (st' := []) (mem' := (mk x y)) 0 rfl ?_
  refine mS_steps (pc' := 4) (ls' := [.ref 234, .ref 228, .int p2, mU]) (st' := [.int (x.1 234 0)]) (mem' := (mk x y)) 2 rfl ?_
  refine mS_jn (fun j => ∀ z : Unit, mS fm L xs (fun r : Int32 => (.int r, (mk x y))) pg_X7_blueHop 29 [.ref 234, .ref 228, .int p2, mU] [] (mk x y) (j z)) ?_ ?_
  · intro z
    refine mS_steps (pc' := 36) (ls' := [.ref 234, .ref 228, .int p2, .int ((x.1 234 0) - (1 : Int32))]) (st' := []) (mem' := (mk x y)) 5 rfl ?_
    refine f_X7_blueHop_L36_snd p2 x y mF ((x.1 234 0) - (1 : Int32))
  intro j1 hj1
  refine mS_if5 rfl (fun _ => ?_) (fun _ => ?_)
  · exact hj1 ()
  · refine mS_steps (pc' := 17) (ls' := [.ref 234, .ref 228, .int p2, mU]) (st' := [.int ((x.1 234 0) - (1 : Int32)), .ref 235]) (mem' := (mk x y)) 6 rfl ?_
    refine mS_ald (b := 0) (n := 8) (z := (x.1 235 ((x.1 234 0) - (1 : Int32)).toNatClampNeg)) rfl (by decide) rfl (by decide) rfl (fun _ => ?_)
    refine mS_steps (pc' := 19) (ls' := [.ref 234, .ref 228, .int p2, mU]) (st' := [.int p2, .int (x.1 235 ((x.1 234 0) - (1 : Int32)).toNatClampNeg)]) (mem' := (mk x y)) 1 rfl ?_
    refine mS_ic1 rfl (fun _ => ?_) (fun _ => ?_)
    · refine mS_steps (pc' := 27) (ls' := [.ref 234, .ref 228, .int p2, mU]) (st' := [.int (0 : Int32), .ref 235]) (mem' := (mk x y)) 3 rfl ?_
      refine mS_aldc (b := 0) (n := 8) (c := 0) (z := (x.1 235 0)) rfl (by decide) rfl (by decide) (by decide) (by decide) rfl ?_
      exact mS_reti ⟨_, _, _, _, _, rfl, rfl⟩ rfl
    · exact hj1 ()
def f_X7_settle_L36 (a2 : Int32) (a4 : Int32) (a5 : Int32) : Nat → Int32 → mX → Option mX
  | 0, _, _ => none
  | n + 1, a6, x => (if (8 : Int32) ≤ a6 then (some x) else (if a6 = a4 then (f_X7_settle_L36 a2 a4 a5 n (a6 + (1 : Int32)) x) else (if (f_X10_has a5 a6) = 0 then (f_X7_settle_L36 a2 a4 a5 n (a6 + (1 : Int32)) x) else (if m_in ((a2 * (8 : Int32)) + a6) 64 = true then (m_let (m_xs x 236 ((a2 * (8 : Int32)) + a6).toNatClampNeg a4) fun x4 => (if m_in ((a2 * (8 : Int32)) + a6) 64 = true then (m_let (m_xs x4 237 ((a2 * (8 : Int32)) + a6).toNatClampNeg a5) fun x5 => ((f_X7_redHop a6 x5).bind fun q6 => ((f_X7_putHop a2 a6 (0 : Int32) q6 x5).bind fun q7 => ((f_X7_blueHop a6 q7).bind fun q8 => ((f_X7_putHop a2 a6 (1 : Int32) q8 q7).bind fun q9 => (f_X7_settle_L36 a2 a4 a5 n (a6 + (1 : Int32)) q9)))))) else none)) else none))))
def f_X7_settle (p2 : Int32) (p3 : Int32) (x : mX) : Option mX := ((f_X3_headFrom p3 p2 x).bind fun q1 => (if q1 = (-1 : Int32) then (some x) else ((f_X3_blockOf 228 p3 q1 x).bind fun q2 => ((f_X7_arrange q2 q1 x).bind fun q3 => (f_X7_settle_L36 p2 q1 q2 mF (0 : Int32) q3)))))
set_option maxRecDepth 20000 in
set_option maxHeartbeats 2000000 in
theorem f_X7_settle_L36_snd {fm : Value} {L : Nat} {xs : Nat → Int32} (a2 : Int32) (a4 : Int32) (a5 : Int32) (y : mY) : ∀ (n : Nat) (a6 : Int32) (x : mX), mS fm L xs (fun r : mX => (mU, mk r y)) pg_X7_settle 36 [.ref 234, .ref 228, .int a2, mU, .int a4, .int a5, .int a6] [] (mk x y) (f_X7_settle_L36 a2 a4 a5 n a6 x) := by
  intro n
  induction n with
  | zero => intro a6 x; exact mS_none
  | succ n ih =>
    intro a6 x
    rw [f_X7_settle_L36]
    refine mS_steps (pc' := 40) (ls' := [.ref 234, .ref 228, .int a2, mU, .int a4, .int a5, .int a6]) (st' := [.int (8 : Int32), .int a6]) (mem' := (mk x y)) 2 rfl ?_
    refine mS_ic3 rfl (fun _ => ?_) (fun _ => ?_)
    · exact mS_retv ⟨_, _, _, _, _, rfl⟩ rfl
    · refine mS_steps (pc' := 47) (ls' := [.ref 234, .ref 228, .int a2, mU, .int a4, .int a5, .int a6]) (st' := [.int a4, .int a6]) (mem' := (mk x y)) 2 rfl ?_
      refine mS_ic0 rfl (fun _ => ?_) (fun _ => ?_)
      · refine mS_steps (pc' := 36) (ls' := [.ref 234, .ref 228, .int a2, mU, .int a4, .int a5, .int (a6 + (1 : Int32))]) (st' := []) (mem' := (mk x y)) 2 rfl ?_
        exact ih (a6 + (1 : Int32)) x
      · refine mS_steps (pc' := 54) (ls' := [.ref 234, .ref 228, .int a2, mU, .int a4, .int a5, .int a6]) (st' := [.int a6, .int a5]) (mem' := (mk x y)) 2 rfl ?_
        refine mS_call (q := (f_X10_has a5 a6)) 57 2 [.int a5, .int a6] [] rfl rfl rfl ⟨_, _, _, rfl, rfl⟩ (Nat.le_of_ble_eq_true rfl) (Nat.le_of_ble_eq_true rfl) rfl (f_X10_has_snd a5 a6 (mk x y)) ?_
        refine mS_steps (pc' := 57) (ls' := [.ref 234, .ref 228, .int a2, mU, .int a4, .int a5, .int a6]) (st' := [.int (f_X10_has a5 a6)]) (mem' := (mk x y)) 0 rfl ?_
        refine mS_if0 rfl (fun _ => ?_) (fun _ => ?_)
        · refine mS_steps (pc' := 36) (ls' := [.ref 234, .ref 228, .int a2, mU, .int a4, .int a5, .int (a6 + (1 : Int32))]) (st' := []) (mem' := (mk x y)) 2 rfl ?_
          exact ih (a6 + (1 : Int32)) x
        · refine mS_steps (pc' := 73) (ls' := [.ref 234, .ref 228, .int a2, mU, .int a4, .int a5, .int a6]) (st' := [.int a4, .int ((a2 * (8 : Int32)) + a6), .ref 236]) (mem' := (mk x y)) 8 rfl ?_
          refine mS_ast0x (n := 64) rfl rfl (by decide) (fun _ => ?_)
          refine mS_letx (fun x4 => ?_)
          refine mS_steps (pc' := 87) (ls' := [.ref 234, .ref 228, .int a2, mU, .int a4, .int a5, .int a6]) (st' := [.int a5, .int ((a2 * (8 : Int32)) + a6), .ref 237]) (mem' := (mk x4 y)) 8 rfl ?_
          refine mS_ast0x (n := 64) rfl rfl (by decide) (fun _ => ?_)
          refine mS_letx (fun x5 => ?_)
          refine mS_steps (pc' := 98) (ls' := [.ref 234, .ref 228, .int a2, mU, .int a4, .int a5, .int a6]) (st' := [.int a6, .ref 228, .ref 234, .int (0 : Int32), .int a6, .int a2, .ref 228, .ref 234]) (mem' := (mk x5 y)) 8 rfl ?_
          refine mS_bind (fun q6 hq6 => mS_call 131 3 [.ref 234, .ref 228, .int a6] [.int (0 : Int32), .int a6, .int a2, .ref 228, .ref 234] rfl rfl rfl ⟨_, _, _, rfl, rfl⟩ (Nat.le_of_ble_eq_true rfl) (Nat.le_of_ble_eq_true rfl) hq6 (f_X7_redHop_snd a6 x5 y) ?_)
          refine mS_steps (pc' := 101) (ls' := [.ref 234, .ref 228, .int a2, mU, .int a4, .int a5, .int a6]) (st' := [.int q6, .int (0 : Int32), .int a6, .int a2, .ref 228, .ref 234]) (mem' := (mk x5 y)) 0 rfl ?_
          refine mS_bind (fun q7 hq7 => mS_call 122 6 [.ref 234, .ref 228, .int a2, .int a6, .int (0 : Int32), .int q6] [] rfl rfl rfl ⟨_, _, _, rfl, rfl⟩ (Nat.le_of_ble_eq_true rfl) (Nat.le_of_ble_eq_true rfl) hq7 (f_X7_putHop_snd a2 a6 (0 : Int32) q6 x5 y) ?_)
          refine mS_steps (pc' := 114) (ls' := [.ref 234, .ref 228, .int a2, mU, .int a4, .int a5, .int a6]) (st' := [.int a6, .ref 228, .ref 234, .int (1 : Int32), .int a6, .int a2, .ref 228, .ref 234]) (mem' := (mk q7 y)) 8 rfl ?_
          refine mS_bind (fun q8 hq8 => mS_call 132 3 [.ref 234, .ref 228, .int a6] [.int (1 : Int32), .int a6, .int a2, .ref 228, .ref 234] rfl rfl rfl ⟨_, _, _, rfl, rfl⟩ (Nat.le_of_ble_eq_true rfl) (Nat.le_of_ble_eq_true rfl) hq8 (f_X7_blueHop_snd a6 q7 y) ?_)
          refine mS_steps (pc' := 117) (ls' := [.ref 234, .ref 228, .int a2, mU, .int a4, .int a5, .int a6]) (st' := [.int q8, .int (1 : Int32), .int a6, .int a2, .ref 228, .ref 234]) (mem' := (mk q7 y)) 0 rfl ?_
          refine mS_bind (fun q9 hq9 => mS_call 122 6 [.ref 234, .ref 228, .int a2, .int a6, .int (1 : Int32), .int q8] [] rfl rfl rfl ⟨_, _, _, rfl, rfl⟩ (Nat.le_of_ble_eq_true rfl) (Nat.le_of_ble_eq_true rfl) hq9 (f_X7_putHop_snd a2 a6 (1 : Int32) q8 q7 y) ?_)
          refine mS_steps (pc' := 36) (ls' := [.ref 234, .ref 228, .int a2, mU, .int a4, .int a5, .int (a6 + (1 : Int32))]) (st' := []) (mem' := (mk q9 y)) 2 rfl ?_
          exact ih (a6 + (1 : Int32)) q9
set_option maxRecDepth 20000 in
set_option maxHeartbeats 2000000 in
theorem f_X7_settle_snd {fm : Value} {L : Nat} {xs : Nat → Int32} (p2 : Int32) (p3 : Int32) (x : mX) (y : mY) : mS fm L xs (fun r : mX => (mU, mk r y)) pg_X7_settle 0 (m_entry [.ref 234, .ref 228, .int p2, .int p3] 7) [] (mk x y) ((f_X7_settle p2 p3 x)) := by
  unfold f_X7_settle
  refine mS_steps (pc' := 0) (ls' := [.ref 234, .ref 228, .int p2, .int p3, mU, mU, mU]) (st' := []) (mem' := (mk x y)) 0 rfl ?_
  refine mS_steps (pc' := 3) (ls' := [.ref 234, .ref 228, .int p2, .int p3, mU, mU, mU]) (st' := [.int p2, .int p3, .ref 228]) (mem' := (mk x y)) 3 rfl ?_
  refine mS_bind (fun q1 hq1 => mS_call 124 3 [.ref 228, .int p3, .int p2] [] rfl rfl rfl ⟨_, _, _, rfl, rfl⟩ (Nat.le_of_ble_eq_true rfl) (Nat.le_of_ble_eq_true rfl) hq1 (f_X3_headFrom_snd p3 p2 x y) ?_)
  refine mS_steps (pc' := 11) (ls' := [.ref 234, .ref 228, .int p2, .int p3, .int q1, mU, mU]) (st' := [.int (-1 : Int32), .int q1]) (mem' := (mk x y)) 3 rfl ?_
  refine mS_ic1 rfl (fun _ => ?_) (fun _ => ?_)
  · exact mS_retv ⟨_, _, _, _, _, rfl⟩ rfl
  · refine mS_steps (pc' := 19) (ls' := [.ref 234, .ref 228, .int p2, .int p3, .int q1, mU, mU]) (st' := [.int q1, .int p3, .ref 228]) (mem' := (mk x y)) 3 rfl ?_
    refine mS_bind (fun q2 hq2 => mS_call 125 3 [.ref 228, .int p3, .int q1] [] rfl rfl rfl ⟨_, _, _, rfl, rfl⟩ (Nat.le_of_ble_eq_true rfl) (Nat.le_of_ble_eq_true rfl) hq2 (f_X3_blockOf_228_snd p3 q1 x y) ?_)
    refine mS_steps (pc' := 30) (ls' := [.ref 234, .ref 228, .int p2, .int p3, .int q1, .int q2, mU]) (st' := [.int q1, .int q2, .ref 228, .ref 234]) (mem' := (mk x y)) 5 rfl ?_
    refine mS_bind (fun q3 hq3 => mS_call 130 4 [.ref 234, .ref 228, .int q2, .int q1] [] rfl rfl rfl ⟨_, _, _, rfl, rfl⟩ (Nat.le_of_ble_eq_true rfl) (Nat.le_of_ble_eq_true rfl) hq3 (f_X7_arrange_snd q2 q1 x y) ?_)
    refine mS_steps (pc' := 36) (ls' := [.ref 234, .ref 228, .int p2, .int p3, .int q1, .int q2, .int (0 : Int32)]) (st' := []) (mem' := (mk q3 y)) 2 rfl ?_
    refine mS_forget [.ref 234, .ref 228, .int p2, mU, .int q1, .int q2, .int (0 : Int32)] ⟨Or.inr rfl, Or.inr rfl, Or.inr rfl, Or.inl rfl, Or.inr rfl, Or.inr rfl, Or.inr rfl, trivial⟩ ?_
    refine f_X7_settle_L36_snd p2 q1 q2 y mF (0 : Int32) q3
def f_X7_prepare_L26 (a2 : Int32) : Nat → Int32 → mX → (mX → Option mX) → Option mX
  | 0, _, _, _ => none
  | n + 1, a3, x, k80 => (if (8 : Int32) ≤ a3 then (k80 x) else (if m_in ((a2 * (8 : Int32)) + a3) 64 = true then (m_let (m_xs x 236 ((a2 * (8 : Int32)) + a3).toNatClampNeg (-1 : Int32)) fun x2 => (if m_in ((a2 * (8 : Int32)) + a3) 64 = true then (m_let (m_xs x2 237 ((a2 * (8 : Int32)) + a3).toNatClampNeg (0 : Int32)) fun x3 => ((f_X7_putHop a2 a3 (0 : Int32) (-1 : Int32) x3).bind fun q4 => ((f_X7_putHop a2 a3 (1 : Int32) (-1 : Int32) q4).bind fun q5 => (f_X7_prepare_L26 a2 n (a3 + (1 : Int32)) q5 k80)))) else none)) else none))
def f_X7_prepare_L82 (a2 : Int32) : Nat → Int32 → mX → Option mX
  | 0, _, _ => none
  | n + 1, a3, x => (if (8 : Int32) ≤ a3 then (some x) else (if a3 = a2 then (f_X7_prepare_L82 a2 n (a3 + (1 : Int32)) x) else (if m_in a2 8 = true then (if (f_X10_has (x.1 230 a2.toNatClampNeg) a3) = 0 then (f_X7_prepare_L82 a2 n (a3 + (1 : Int32)) x) else ((f_X7_ownOf a2 a3 x).bind fun q7 => (if q7 = 0 then ((f_X7_settle a2 a3 x).bind fun q8 => (f_X7_prepare_L82 a2 n (a3 + (1 : Int32)) q8)) else (f_X7_prepare_L82 a2 n (a3 + (1 : Int32)) x)))) else none)))
def f_X7_prepare (p2 : Int32) (x : mX) : Option mX := (if (f_X10_has (x.1 234 2) p2) = 0 then (m_let (m_xs x 234 2 ((x.1 234 2) ||| ((1 : Int32) <<< (p2 &&& 31)))) fun x1 => (f_X7_prepare_L26 p2 mF (0 : Int32) x1 (fun x6 => (f_X7_prepare_L82 p2 mF (0 : Int32) x6)))) else (some x))
set_option maxRecDepth 20000 in
set_option maxHeartbeats 2000000 in
theorem f_X7_prepare_L26_snd {fm : Value} {L : Nat} {xs : Nat → Int32} (a2 : Int32) (y : mY) (k80 : mX → Option mX) (hk80 : ∀ (z0 : mX), mS fm L xs (fun r : mX => (mU, mk r y)) pg_X7_prepare 80 [.ref 234, .ref 228, .int a2, mU] [] (mk z0 y) (k80 z0)) : ∀ (n : Nat) (a3 : Int32) (x : mX), mS fm L xs (fun r : mX => (mU, mk r y)) pg_X7_prepare 26 [.ref 234, .ref 228, .int a2, .int a3] [] (mk x y) (f_X7_prepare_L26 a2 n a3 x k80) := by
  intro n
  induction n with
  | zero => intro a3 x; exact mS_none
  | succ n ih =>
    intro a3 x
    rw [f_X7_prepare_L26]
    refine mS_steps (pc' := 29) (ls' := [.ref 234, .ref 228, .int a2, .int a3]) (st' := [.int (8 : Int32), .int a3]) (mem' := (mk x y)) 2 rfl ?_
    refine mS_ic3 rfl (fun _ => ?_) (fun _ => ?_)
    · refine mS_forget [.ref 234, .ref 228, .int a2, mU] ⟨Or.inr rfl, Or.inr rfl, Or.inr rfl, Or.inl rfl, trivial⟩ ?_
      exact hk80 x
    · refine mS_steps (pc' := 43) (ls' := [.ref 234, .ref 228, .int a2, .int a3]) (st' := [.int (-1 : Int32), .int ((a2 * (8 : Int32)) + a3), .ref 236]) (mem' := (mk x y)) 8 rfl ?_
      refine mS_ast0x (n := 64) rfl rfl (by decide) (fun _ => ?_)
      refine mS_letx (fun x2 => ?_)
      refine mS_steps (pc' := 55) (ls' := [.ref 234, .ref 228, .int a2, .int a3]) (st' := [.int (0 : Int32), .int ((a2 * (8 : Int32)) + a3), .ref 237]) (mem' := (mk x2 y)) 8 rfl ?_
      refine mS_ast0x (n := 64) rfl rfl (by decide) (fun _ => ?_)
      refine mS_letx (fun x3 => ?_)
      refine mS_steps (pc' := 62) (ls' := [.ref 234, .ref 228, .int a2, .int a3]) (st' := [.int (-1 : Int32), .int (0 : Int32), .int a3, .int a2, .ref 228, .ref 234]) (mem' := (mk x3 y)) 6 rfl ?_
      refine mS_bind (fun q4 hq4 => mS_call 122 6 [.ref 234, .ref 228, .int a2, .int a3, .int (0 : Int32), .int (-1 : Int32)] [] rfl rfl rfl ⟨_, _, _, rfl, rfl⟩ (Nat.le_of_ble_eq_true rfl) (Nat.le_of_ble_eq_true rfl) hq4 (f_X7_putHop_snd a2 a3 (0 : Int32) (-1 : Int32) x3 y) ?_)
      refine mS_steps (pc' := 71) (ls' := [.ref 234, .ref 228, .int a2, .int a3]) (st' := [.int (-1 : Int32), .int (1 : Int32), .int a3, .int a2, .ref 228, .ref 234]) (mem' := (mk q4 y)) 6 rfl ?_
      refine mS_bind (fun q5 hq5 => mS_call 122 6 [.ref 234, .ref 228, .int a2, .int a3, .int (1 : Int32), .int (-1 : Int32)] [] rfl rfl rfl ⟨_, _, _, rfl, rfl⟩ (Nat.le_of_ble_eq_true rfl) (Nat.le_of_ble_eq_true rfl) hq5 (f_X7_putHop_snd a2 a3 (1 : Int32) (-1 : Int32) q4 y) ?_)
      refine mS_steps (pc' := 26) (ls' := [.ref 234, .ref 228, .int a2, .int (a3 + (1 : Int32))]) (st' := []) (mem' := (mk q5 y)) 2 rfl ?_
      exact ih (a3 + (1 : Int32)) q5
set_option maxRecDepth 20000 in
set_option maxHeartbeats 2000000 in
theorem f_X7_prepare_L82_snd {fm : Value} {L : Nat} {xs : Nat → Int32} (a2 : Int32) (y : mY) : ∀ (n : Nat) (a3 : Int32) (x : mX), mS fm L xs (fun r : mX => (mU, mk r y)) pg_X7_prepare 82 [.ref 234, .ref 228, .int a2, .int a3] [] (mk x y) (f_X7_prepare_L82 a2 n a3 x) := by
  intro n
  induction n with
  | zero => intro a3 x; exact mS_none
  | succ n ih =>
    intro a3 x
    rw [f_X7_prepare_L82]
    refine mS_steps (pc' := 85) (ls' := [.ref 234, .ref 228, .int a2, .int a3]) (st' := [.int (8 : Int32), .int a3]) (mem' := (mk x y)) 2 rfl ?_
    refine mS_ic3 rfl (fun _ => ?_) (fun _ => ?_)
    · exact mS_retv ⟨_, _, _, _, _, rfl⟩ rfl
    · refine mS_steps (pc' := 90) (ls' := [.ref 234, .ref 228, .int a2, .int a3]) (st' := [.int a2, .int a3]) (mem' := (mk x y)) 2 rfl ?_
      refine mS_ic0 rfl (fun _ => ?_) (fun _ => ?_)
      · refine mS_steps (pc' := 82) (ls' := [.ref 234, .ref 228, .int a2, .int (a3 + (1 : Int32))]) (st' := []) (mem' := (mk x y)) 2 rfl ?_
        exact ih (a3 + (1 : Int32)) x
      · refine mS_steps (pc' := 98) (ls' := [.ref 234, .ref 228, .int a2, .int a3]) (st' := [.int a2, .ref 230]) (mem' := (mk x y)) 3 rfl ?_
        refine mS_ald (b := 0) (n := 8) (z := (x.1 230 a2.toNatClampNeg)) rfl (by decide) rfl (by decide) rfl (fun _ => ?_)
        refine mS_steps (pc' := 100) (ls' := [.ref 234, .ref 228, .int a2, .int a3]) (st' := [.int a3, .int (x.1 230 a2.toNatClampNeg)]) (mem' := (mk x y)) 1 rfl ?_
        refine mS_call (q := (f_X10_has (x.1 230 a2.toNatClampNeg) a3)) 57 2 [.int (x.1 230 a2.toNatClampNeg), .int a3] [] rfl rfl rfl ⟨_, _, _, rfl, rfl⟩ (Nat.le_of_ble_eq_true rfl) (Nat.le_of_ble_eq_true rfl) rfl (f_X10_has_snd (x.1 230 a2.toNatClampNeg) a3 (mk x y)) ?_
        refine mS_steps (pc' := 103) (ls' := [.ref 234, .ref 228, .int a2, .int a3]) (st' := [.int (f_X10_has (x.1 230 a2.toNatClampNeg) a3)]) (mem' := (mk x y)) 0 rfl ?_
        refine mS_if0 rfl (fun _ => ?_) (fun _ => ?_)
        · refine mS_steps (pc' := 82) (ls' := [.ref 234, .ref 228, .int a2, .int (a3 + (1 : Int32))]) (st' := []) (mem' := (mk x y)) 2 rfl ?_
          exact ih (a3 + (1 : Int32)) x
        · refine mS_steps (pc' := 109) (ls' := [.ref 234, .ref 228, .int a2, .int a3]) (st' := [.int a3, .int a2, .ref 234]) (mem' := (mk x y)) 3 rfl ?_
          refine mS_bind (fun q7 hq7 => mS_call 123 3 [.ref 234, .int a2, .int a3] [] rfl rfl rfl ⟨_, _, _, rfl, rfl⟩ (Nat.le_of_ble_eq_true rfl) (Nat.le_of_ble_eq_true rfl) hq7 (f_X7_ownOf_snd a2 a3 x y) ?_)
          refine mS_steps (pc' := 112) (ls' := [.ref 234, .ref 228, .int a2, .int a3]) (st' := [.int q7]) (mem' := (mk x y)) 0 rfl ?_
          refine mS_if1 rfl (fun _ => ?_) (fun _ => ?_)
          · refine mS_steps (pc' := 119) (ls' := [.ref 234, .ref 228, .int a2, .int a3]) (st' := [.int a3, .int a2, .ref 228, .ref 234]) (mem' := (mk x y)) 4 rfl ?_
            refine mS_bind (fun q8 hq8 => mS_call 133 4 [.ref 234, .ref 228, .int a2, .int a3] [] rfl rfl rfl ⟨_, _, _, rfl, rfl⟩ (Nat.le_of_ble_eq_true rfl) (Nat.le_of_ble_eq_true rfl) hq8 (f_X7_settle_snd a2 a3 x y) ?_)
            refine mS_steps (pc' := 82) (ls' := [.ref 234, .ref 228, .int a2, .int (a3 + (1 : Int32))]) (st' := []) (mem' := (mk q8 y)) 2 rfl ?_
            exact ih (a3 + (1 : Int32)) q8
          · refine mS_steps (pc' := 82) (ls' := [.ref 234, .ref 228, .int a2, .int (a3 + (1 : Int32))]) (st' := []) (mem' := (mk x y)) 2 rfl ?_
            exact ih (a3 + (1 : Int32)) x
set_option maxRecDepth 20000 in
set_option maxHeartbeats 2000000 in
theorem f_X7_prepare_snd {fm : Value} {L : Nat} {xs : Nat → Int32} (p2 : Int32) (x : mX) (y : mY) : mS fm L xs (fun r : mX => (mU, mk r y)) pg_X7_prepare 0 (m_entry [.ref 234, .ref 228, .int p2] 4) [] (mk x y) ((f_X7_prepare p2 x)) := by
  unfold f_X7_prepare
  refine mS_steps (pc' := 0) (ls' := [.ref 234, .ref 228, .int p2, mU]) (st' := []) (mem' := (mk x y)) 0 rfl ?_
  refine mS_steps (pc' := 5) (ls' := [.ref 234, .ref 228, .int p2, mU]) (st' := [.int p2, .int (x.1 234 2)]) (mem' := (mk x y)) 3 rfl ?_
  refine mS_call (q := (f_X10_has (x.1 234 2) p2)) 57 2 [.int (x.1 234 2), .int p2] [] rfl rfl rfl ⟨_, _, _, rfl, rfl⟩ (Nat.le_of_ble_eq_true rfl) (Nat.le_of_ble_eq_true rfl) rfl (f_X10_has_snd (x.1 234 2) p2 (mk x y)) ?_
  refine mS_steps (pc' := 8) (ls' := [.ref 234, .ref 228, .int p2, mU]) (st' := [.int (f_X10_has (x.1 234 2) p2)]) (mem' := (mk x y)) 0 rfl ?_
  refine mS_if0 rfl (fun _ => ?_) (fun _ => ?_)
  · refine mS_steps (pc' := 21) (ls' := [.ref 234, .ref 228, .int p2, mU]) (st' := [.int ((x.1 234 2) ||| ((1 : Int32) <<< (p2 &&& 31))), .ref 234]) (mem' := (mk x y)) 7 rfl ?_
    refine mS_putx rfl rfl (by decide) rfl ?_
    refine mS_letx (fun x1 => ?_)
    refine mS_steps (pc' := 26) (ls' := [.ref 234, .ref 228, .int p2, .int (0 : Int32)]) (st' := []) (mem' := (mk x1 y)) 2 rfl ?_
    refine f_X7_prepare_L26_snd p2 y _ ?_ mF (0 : Int32) x1
    · intro x6
      refine mS_steps (pc' := 82) (ls' := [.ref 234, .ref 228, .int p2, .int (0 : Int32)]) (st' := []) (mem' := (mk x6 y)) 2 rfl ?_
      refine f_X7_prepare_L82_snd p2 y mF (0 : Int32) x6
  · exact mS_retv ⟨_, _, _, _, _, rfl⟩ rfl
def f_X10_canGo (p1 : Int32) (p2 : Int32) (x : mX) : Option (Int32 × mX) := (if (f_X10_canSend p1 p2 x) = 0 then (some ((0 : Int32), x)) else ((f_X10_learntNet x).bind fun q1 => (if q1.1 = 228 then ((f_X7_prepare p2 q1.2).bind fun q2 => (some ((1 : Int32), q2))) else none)))
set_option maxRecDepth 20000 in
set_option maxHeartbeats 2000000 in
theorem f_X10_canGo_snd {fm : Value} {L : Nat} {xs : Nat → Int32} (p1 : Int32) (p2 : Int32) (x : mX) (y : mY) : mS fm L xs (fun r : (Int32 × mX) => (.int r.1, mk r.2 y)) pg_X10_canGo 0 (m_entry [.ref 0, .int p1, .int p2] 3) [] (mk x y) ((f_X10_canGo p1 p2 x)) := by
  unfold f_X10_canGo
  refine mS_steps (pc' := 0) (ls' := [.ref 0, .int p1, .int p2]) (st' := []) (mem' := (mk x y)) 0 rfl ?_
  refine mS_steps (pc' := 3) (ls' := [.ref 0, .int p1, .int p2]) (st' := [.int p2, .int p1, .ref 0]) (mem' := (mk x y)) 3 rfl ?_
  refine mS_call (q := (f_X10_canSend p1 p2 x)) 111 3 [.ref 0, .int p1, .int p2] [] rfl rfl rfl ⟨_, _, _, rfl, rfl⟩ (Nat.le_of_ble_eq_true rfl) (Nat.le_of_ble_eq_true rfl) rfl (f_X10_canSend_snd p1 p2 x y) ?_
  refine mS_steps (pc' := 6) (ls' := [.ref 0, .int p1, .int p2]) (st' := [.int (f_X10_canSend p1 p2 x)]) (mem' := (mk x y)) 0 rfl ?_
  refine mS_if1 rfl (fun _ => ?_) (fun _ => ?_)
  · refine mS_steps (pc' := 10) (ls' := [.ref 0, .int p1, .int p2]) (st' := [.int (0 : Int32)]) (mem' := (mk x y)) 1 rfl ?_
    exact mS_reti ⟨_, _, _, _, _, rfl, (by decide)⟩ rfl
  · refine mS_steps (pc' := 16) (ls' := [.ref 0, .int p1, .int p2]) (st' := [.ref 0, .ref 234]) (mem' := (mk x y)) 3 rfl ?_
    refine mS_bind (fun q1 hq1 => mS_call 119 1 [.ref 0] [.ref 234] rfl rfl rfl ⟨_, _, _, rfl, rfl⟩ (Nat.le_of_ble_eq_true rfl) (Nat.le_of_ble_eq_true rfl) hq1 (f_X10_learntNet_snd  x y) ?_)
    refine mS_steps (pc' := 19) (ls' := [.ref 0, .int p1, .int p2]) (st' := .ref q1.1 :: [.ref 234]) (mem' := (mk q1.2 y)) 0 rfl ?_
    refine mS_guard (fun hrq1 => ?_)
    rw [hrq1]
    refine mS_steps (pc' := 20) (ls' := [.ref 0, .int p1, .int p2]) (st' := [.int p2, .ref 228, .ref 234]) (mem' := (mk q1.2 y)) 1 rfl ?_
    refine mS_bind (fun q2 hq2 => mS_call 134 3 [.ref 234, .ref 228, .int p2] [] rfl rfl rfl ⟨_, _, _, rfl, rfl⟩ (Nat.le_of_ble_eq_true rfl) (Nat.le_of_ble_eq_true rfl) hq2 (f_X7_prepare_snd p2 q1.2 y) ?_)
    refine mS_steps (pc' := 24) (ls' := [.ref 0, .int p1, .int p2]) (st' := [.int (1 : Int32)]) (mem' := (mk q2 y)) 1 rfl ?_
    exact mS_reti ⟨_, _, _, _, _, rfl, (by decide)⟩ rfl
def f_X7_linkAt (p1 : Int32) (p2 : Int32) (p3 : Int32) (x : mX) : Option Int32 := (if m_in (f_X7_cell p1 p2 p3) 128 = true then (some (x.1 239 (f_X7_cell p1 p2 p3).toNatClampNeg)) else none)
set_option maxRecDepth 20000 in
set_option maxHeartbeats 2000000 in
theorem f_X7_linkAt_snd {fm : Value} {L : Nat} {xs : Nat → Int32} (p1 : Int32) (p2 : Int32) (p3 : Int32) (x : mX) (y : mY) : mS fm L xs (fun r : Int32 => (.int r, (mk x y))) pg_X7_linkAt 0 (m_entry [.ref 234, .int p1, .int p2, .int p3] 4) [] (mk x y) ((f_X7_linkAt p1 p2 p3 x)) := by
  unfold f_X7_linkAt
  refine mS_steps (pc' := 0) (ls' := [.ref 234, .int p1, .int p2, .int p3]) (st' := []) (mem' := (mk x y)) 0 rfl ?_
  refine mS_steps (pc' := 7) (ls' := [.ref 234, .int p1, .int p2, .int p3]) (st' := [.int p3, .int p2, .int p1, .ref 239]) (mem' := (mk x y)) 5 rfl ?_
  refine mS_call (q := (f_X7_cell p1 p2 p3)) 120 3 [.int p1, .int p2, .int p3] [.ref 239] rfl rfl rfl ⟨_, _, _, rfl, rfl⟩ (Nat.le_of_ble_eq_true rfl) (Nat.le_of_ble_eq_true rfl) rfl (f_X7_cell_snd p1 p2 p3 (mk x y)) ?_
  refine mS_steps (pc' := 10) (ls' := [.ref 234, .int p1, .int p2, .int p3]) (st' := [.int (f_X7_cell p1 p2 p3), .ref 239]) (mem' := (mk x y)) 0 rfl ?_
  refine mS_ald (b := 0) (n := 128) (z := (x.1 239 (f_X7_cell p1 p2 p3).toNatClampNeg)) rfl (by decide) rfl (by decide) rfl (fun _ => ?_)
  exact mS_reti ⟨_, _, _, _, _, rfl, rfl⟩ rfl
def f_X7_next (p1 : Int32) (p2 : Int32) (p3 : Int32) (x : mX) : Option Int32 := (if m_in (f_X7_cell p1 p2 p3) 128 = true then (some (x.1 238 (f_X7_cell p1 p2 p3).toNatClampNeg)) else none)
set_option maxRecDepth 20000 in
set_option maxHeartbeats 2000000 in
theorem f_X7_next_snd {fm : Value} {L : Nat} {xs : Nat → Int32} (p1 : Int32) (p2 : Int32) (p3 : Int32) (x : mX) (y : mY) : mS fm L xs (fun r : Int32 => (.int r, (mk x y))) pg_X7_next 0 (m_entry [.ref 234, .int p1, .int p2, .int p3] 4) [] (mk x y) ((f_X7_next p1 p2 p3 x)) := by
  unfold f_X7_next
  refine mS_steps (pc' := 0) (ls' := [.ref 234, .int p1, .int p2, .int p3]) (st' := []) (mem' := (mk x y)) 0 rfl ?_
  refine mS_steps (pc' := 7) (ls' := [.ref 234, .int p1, .int p2, .int p3]) (st' := [.int p3, .int p2, .int p1, .ref 238]) (mem' := (mk x y)) 5 rfl ?_
  refine mS_call (q := (f_X7_cell p1 p2 p3)) 120 3 [.int p1, .int p2, .int p3] [.ref 238] rfl rfl rfl ⟨_, _, _, rfl, rfl⟩ (Nat.le_of_ble_eq_true rfl) (Nat.le_of_ble_eq_true rfl) rfl (f_X7_cell_snd p1 p2 p3 (mk x y)) ?_
  refine mS_steps (pc' := 10) (ls' := [.ref 234, .int p1, .int p2, .int p3]) (st' := [.int (f_X7_cell p1 p2 p3), .ref 238]) (mem' := (mk x y)) 0 rfl ?_
  refine mS_ald (b := 0) (n := 128) (z := (x.1 238 (f_X7_cell p1 p2 p3).toNatClampNeg)) rfl (by decide) rfl (by decide) rfl (fun _ => ?_)
  exact mS_reti ⟨_, _, _, _, _, rfl, rfl⟩ rfl
def f_X8_run_L22 (a3 : Int32) (a4 : Int32) : Nat → Int32 → Int32 → mX → (mX → Option mX) → Option mX
  | 0, _, _, _, _ => none
  | n + 1, a5, a6, x, k136 => (if (16 : Int32) < a6 then (k136 x) else (if (x.1 251 3) = a3 then (k136 x) else ((f_X7_linkAt a3 (x.1 251 3) a5 x).bind fun q4 => (m_jn (fun x6 => (if a5 = 0 then (m_let (m_xs x6 251 2 (x6.1 251 3)) fun x7 => (f_X8_run_L22 a3 a4 n (1 : Int32) (a6 + (1 : Int32)) x7 k136)) else (k136 x6))) (fun j5 => if q4 = (-1 : Int32) then (j5 x) else (if (f_X10_has a4 q4) = 0 then (j5 x) else (if (16 : Int32) ≤ (x.1 251 1) then (j5 x) else (if m_in (x.1 251 1) 16 = true then (m_let (m_xs x 252 (x.1 251 1).toNatClampNeg q4) fun x8 => (m_let (m_xs x8 251 1 ((x8.1 251 1) + (1 : Int32))) fun x9 => ((f_X7_next a3 (x9.1 251 3) a5 x9).bind fun q10 => (m_let (m_xs x9 251 3 q10) fun x11 => (f_X8_run_L22 a3 a4 n a5 (a6 + (1 : Int32)) x11 k136))))) else none))))))))
def f_X8_run (p2 : Int32) (p3 : Int32) (p4 : Int32) (x : mX) : Option mX := (m_let (m_xs x 251 1 (0 : Int32)) fun x1 => (m_let (m_xs x1 251 2 (-2 : Int32)) fun x2 => (m_let (m_xs x2 251 3 p2) fun x3 => (f_X8_run_L22 p3 p4 mF (0 : Int32) (0 : Int32) x3 (fun x12 => (if (x12.1 251 3) = p3 then (m_let (m_xs x12 251 0 (1 : Int32)) fun x13 => (some x13)) else (m_let (m_xs x12 251 0 (0 : Int32)) fun x14 => (some x14))))))))
set_option maxRecDepth 20000 in
set_option maxHeartbeats 2000000 in
theorem f_X8_run_L22_snd {fm : Value} {L : Nat} {xs : Nat → Int32} (a3 : Int32) (a4 : Int32) (y : mY) (k136 : mX → Option mX) (hk136 : ∀ (z0 : mX), mS fm L xs (fun r : mX => (mU, mk r y)) pg_X8_run 136 [.ref 251, mU, mU, .int a3, mU, mU, mU, mU] [] (mk z0 y) (k136 z0)) : ∀ (n : Nat) (a5 : Int32) (a6 : Int32) (x : mX), mS fm L xs (fun r : mX => (mU, mk r y)) pg_X8_run 22 [.ref 251, .ref 234, mU, .int a3, .int a4, .int a5, .int a6, mU] [] (mk x y) (f_X8_run_L22 a3 a4 n a5 a6 x k136) := by
  intro n
  induction n with
  | zero => intro a5 a6 x; exact mS_none
  | succ n ih =>
    intro a5 a6 x
    rw [f_X8_run_L22]
    refine mS_steps (pc' := 26) (ls' := [.ref 251, .ref 234, mU, .int a3, .int a4, .int a5, .int a6, mU]) (st' := [.int (16 : Int32), .int a6]) (mem' := (mk x y)) 2 rfl ?_
    refine mS_ic4 rfl (fun _ => ?_) (fun _ => ?_)
    · refine mS_forget [.ref 251, mU, mU, .int a3, mU, mU, mU, mU] ⟨Or.inr rfl, Or.inl rfl, Or.inl rfl, Or.inr rfl, Or.inl rfl, Or.inl rfl, Or.inl rfl, Or.inl rfl, trivial⟩ ?_
      exact hk136 x
    · refine mS_steps (pc' := 34) (ls' := [.ref 251, .ref 234, mU, .int a3, .int a4, .int a5, .int a6, mU]) (st' := [.int a3, .int (x.1 251 3)]) (mem' := (mk x y)) 3 rfl ?_
      refine mS_ic0 rfl (fun _ => ?_) (fun _ => ?_)
      · refine mS_forget [.ref 251, mU, mU, .int a3, mU, mU, mU, mU] ⟨Or.inr rfl, Or.inl rfl, Or.inl rfl, Or.inr rfl, Or.inl rfl, Or.inl rfl, Or.inl rfl, Or.inl rfl, trivial⟩ ?_
        exact hk136 x
      · refine mS_steps (pc' := 45) (ls' := [.ref 251, .ref 234, mU, .int a3, .int a4, .int a5, .int a6, mU]) (st' := [.int a5, .int (x.1 251 3), .int a3, .ref 234]) (mem' := (mk x y)) 5 rfl ?_
        refine mS_bind (fun q4 hq4 => mS_call 136 4 [.ref 234, .int a3, .int (x.1 251 3), .int a5] [] rfl rfl rfl ⟨_, _, _, rfl, rfl⟩ (Nat.le_of_ble_eq_true rfl) (Nat.le_of_ble_eq_true rfl) hq4 (f_X7_linkAt_snd a3 (x.1 251 3) a5 x y) ?_)
        refine mS_steps (pc' := 53) (ls' := [.ref 251, .ref 234, mU, .int a3, .int a4, .int a5, .int a6, .int q4]) (st' := [.int (-1 : Int32), .int q4]) (mem' := (mk x y)) 3 rfl ?_
        refine mS_jn (fun j => ∀ z : mX, mS fm L xs (fun r : mX => (mU, mk r y)) pg_X8_run 114 [.ref 251, .ref 234, mU, .int a3, .int a4, .int a5, .int a6, mU] [] (mk z y) (j z)) ?_ ?_
        · intro z
          revert z; intro x6
          refine mS_steps (pc' := 116) (ls' := [.ref 251, .ref 234, mU, .int a3, .int a4, .int a5, .int a6, mU]) (st' := [.int a5]) (mem' := (mk x6 y)) 1 rfl ?_
          refine mS_if1 rfl (fun _ => ?_) (fun _ => ?_)
          · refine mS_steps (pc' := 127) (ls' := [.ref 251, .ref 234, mU, .int a3, .int a4, .int (1 : Int32), .int a6, mU]) (st' := [.int (x6.1 251 3), .ref 251]) (mem' := (mk x6 y)) 5 rfl ?_
            refine mS_putx rfl rfl (by decide) rfl ?_
            refine mS_letx (fun x7 => ?_)
            refine mS_steps (pc' := 22) (ls' := [.ref 251, .ref 234, mU, .int a3, .int a4, .int (1 : Int32), .int (a6 + (1 : Int32)), mU]) (st' := []) (mem' := (mk x7 y)) 2 rfl ?_
            exact ih (1 : Int32) (a6 + (1 : Int32)) x7
          · refine mS_forget [.ref 251, mU, mU, .int a3, mU, mU, mU, mU] ⟨Or.inr rfl, Or.inl rfl, Or.inl rfl, Or.inr rfl, Or.inl rfl, Or.inl rfl, Or.inl rfl, Or.inl rfl, trivial⟩ ?_
            exact hk136 x6
        intro j5 hj5
        refine mS_ic0 rfl (fun _ => ?_) (fun _ => ?_)
        · refine mS_forget [.ref 251, .ref 234, mU, .int a3, .int a4, .int a5, .int a6, mU] ⟨Or.inr rfl, Or.inr rfl, Or.inl rfl, Or.inr rfl, Or.inr rfl, Or.inr rfl, Or.inr rfl, Or.inl rfl, trivial⟩ ?_
          exact hj5 x
        · refine mS_steps (pc' := 60) (ls' := [.ref 251, .ref 234, mU, .int a3, .int a4, .int a5, .int a6, .int q4]) (st' := [.int q4, .int a4]) (mem' := (mk x y)) 2 rfl ?_
          refine mS_call (q := (f_X10_has a4 q4)) 57 2 [.int a4, .int q4] [] rfl rfl rfl ⟨_, _, _, rfl, rfl⟩ (Nat.le_of_ble_eq_true rfl) (Nat.le_of_ble_eq_true rfl) rfl (f_X10_has_snd a4 q4 (mk x y)) ?_
          refine mS_steps (pc' := 63) (ls' := [.ref 251, .ref 234, mU, .int a3, .int a4, .int a5, .int a6, .int q4]) (st' := [.int (f_X10_has a4 q4)]) (mem' := (mk x y)) 0 rfl ?_
          refine mS_if0 rfl (fun _ => ?_) (fun _ => ?_)
          · refine mS_forget [.ref 251, .ref 234, mU, .int a3, .int a4, .int a5, .int a6, mU] ⟨Or.inr rfl, Or.inr rfl, Or.inl rfl, Or.inr rfl, Or.inr rfl, Or.inr rfl, Or.inr rfl, Or.inl rfl, trivial⟩ ?_
            exact hj5 x
          · refine mS_steps (pc' := 72) (ls' := [.ref 251, .ref 234, mU, .int a3, .int a4, .int a5, .int a6, .int q4]) (st' := [.int (16 : Int32), .int (x.1 251 1)]) (mem' := (mk x y)) 3 rfl ?_
            refine mS_ic3 rfl (fun _ => ?_) (fun _ => ?_)
            · refine mS_forget [.ref 251, .ref 234, mU, .int a3, .int a4, .int a5, .int a6, mU] ⟨Or.inr rfl, Or.inr rfl, Or.inl rfl, Or.inr rfl, Or.inr rfl, Or.inr rfl, Or.inr rfl, Or.inl rfl, trivial⟩ ?_
              exact hj5 x
            · refine mS_steps (pc' := 85) (ls' := [.ref 251, .ref 234, mU, .int a3, .int a4, .int a5, .int a6, .int q4]) (st' := [.int q4, .int (x.1 251 1), .ref 252]) (mem' := (mk x y)) 5 rfl ?_
              refine mS_ast0x (n := 16) rfl rfl (by decide) (fun _ => ?_)
              refine mS_letx (fun x8 => ?_)
              refine mS_steps (pc' := 93) (ls' := [.ref 251, .ref 234, mU, .int a3, .int a4, .int a5, .int a6, .int q4]) (st' := [.int ((x8.1 251 1) + (1 : Int32)), .ref 251]) (mem' := (mk x8 y)) 5 rfl ?_
              refine mS_putx rfl rfl (by decide) rfl ?_
              refine mS_letx (fun x9 => ?_)
              refine mS_steps (pc' := 105) (ls' := [.ref 251, .ref 234, mU, .int a3, .int a4, .int a5, .int a6, .int q4]) (st' := [.int a5, .int (x9.1 251 3), .int a3, .ref 234, .ref 251]) (mem' := (mk x9 y)) 6 rfl ?_
              refine mS_bind (fun q10 hq10 => mS_call 137 4 [.ref 234, .int a3, .int (x9.1 251 3), .int a5] [.ref 251] rfl rfl rfl ⟨_, _, _, rfl, rfl⟩ (Nat.le_of_ble_eq_true rfl) (Nat.le_of_ble_eq_true rfl) hq10 (f_X7_next_snd a3 (x9.1 251 3) a5 x9 y) ?_)
              refine mS_steps (pc' := 108) (ls' := [.ref 251, .ref 234, mU, .int a3, .int a4, .int a5, .int a6, .int q4]) (st' := [.int q10, .ref 251]) (mem' := (mk x9 y)) 0 rfl ?_
              refine mS_putx rfl rfl (by decide) rfl ?_
              refine mS_letx (fun x11 => ?_)
              refine mS_steps (pc' := 22) (ls' := [.ref 251, .ref 234, mU, .int a3, .int a4, .int a5, .int (a6 + (1 : Int32)), .int q4]) (st' := []) (mem' := (mk x11 y)) 3 rfl ?_
              refine mS_forget [.ref 251, .ref 234, mU, .int a3, .int a4, .int a5, .int (a6 + (1 : Int32)), mU] ⟨Or.inr rfl, Or.inr rfl, Or.inl rfl, Or.inr rfl, Or.inr rfl, Or.inr rfl, Or.inr rfl, Or.inl rfl, trivial⟩ ?_
              exact ih a5 (a6 + (1 : Int32)) x11
set_option maxRecDepth 20000 in
set_option maxHeartbeats 2000000 in
theorem f_X8_run_snd {fm : Value} {L : Nat} {xs : Nat → Int32} (p2 : Int32) (p3 : Int32) (p4 : Int32) (x : mX) (y : mY) : mS fm L xs (fun r : mX => (mU, mk r y)) pg_X8_run 0 (m_entry [.ref 251, .ref 234, .int p2, .int p3, .int p4] 8) [] (mk x y) ((f_X8_run p2 p3 p4 x)) := by
  unfold f_X8_run
  refine mS_steps (pc' := 0) (ls' := [.ref 251, .ref 234, .int p2, .int p3, .int p4, mU, mU, mU]) (st' := []) (mem' := (mk x y)) 0 rfl ?_
  refine mS_steps (pc' := 2) (ls' := [.ref 251, .ref 234, .int p2, .int p3, .int p4, mU, mU, mU]) (st' := [.int (0 : Int32), .ref 251]) (mem' := (mk x y)) 2 rfl ?_
  refine mS_putx rfl rfl (by decide) rfl ?_
  refine mS_letx (fun x1 => ?_)
  refine mS_steps (pc' := 8) (ls' := [.ref 251, .ref 234, .int p2, .int p3, .int p4, mU, mU, mU]) (st' := [.int (-2 : Int32), .ref 251]) (mem' := (mk x1 y)) 2 rfl ?_
  refine mS_putx rfl rfl (by decide) rfl ?_
  refine mS_letx (fun x2 => ?_)
  refine mS_steps (pc' := 13) (ls' := [.ref 251, .ref 234, .int p2, .int p3, .int p4, mU, mU, mU]) (st' := [.int p2, .ref 251]) (mem' := (mk x2 y)) 2 rfl ?_
  refine mS_putx rfl rfl (by decide) rfl ?_
  refine mS_letx (fun x3 => ?_)
  refine mS_steps (pc' := 22) (ls' := [.ref 251, .ref 234, .int p2, .int p3, .int p4, .int (0 : Int32), .int (0 : Int32), mU]) (st' := []) (mem' := (mk x3 y)) 4 rfl ?_
  refine mS_forget [.ref 251, .ref 234, mU, .int p3, .int p4, .int (0 : Int32), .int (0 : Int32), mU] ⟨Or.inr rfl, Or.inr rfl, Or.inl rfl, Or.inr rfl, Or.inr rfl, Or.inr rfl, Or.inr rfl, Or.inl rfl, trivial⟩ ?_
  refine f_X8_run_L22_snd p3 p4 y _ ?_ mF (0 : Int32) (0 : Int32) x3
  · intro x12
    refine mS_steps (pc' := 142) (ls' := [.ref 251, mU, mU, .int p3, mU, mU, mU, mU]) (st' := [.int p3, .int (x12.1 251 3), .ref 251]) (mem' := (mk x12 y)) 4 rfl ?_
    refine mS_ic1 rfl (fun _ => ?_) (fun _ => ?_)
    · refine mS_steps (pc' := 150) (ls' := [.ref 251, mU, mU, .int p3, mU, mU, mU, mU]) (st' := [.int (1 : Int32), .ref 251]) (mem' := (mk x12 y)) 2 rfl ?_
      refine mS_putcx rfl rfl (by decide) rfl (by decide) ?_
      refine mS_letx (fun x13 => ?_)
      exact mS_retv ⟨_, _, _, _, _, rfl⟩ rfl
    · refine mS_steps (pc' := 150) (ls' := [.ref 251, mU, mU, .int p3, mU, mU, mU, mU]) (st' := [.int (0 : Int32), .ref 251]) (mem' := (mk x12 y)) 1 rfl ?_
      refine mS_putcx rfl rfl (by decide) rfl (by decide) ?_
      refine mS_letx (fun x14 => ?_)
      exact mS_retv ⟨_, _, _, _, _, rfl⟩ rfl
def f_X8_tally_L2 (r1 : Nat) : Nat → Int32 → mX → Option mX
  | 0, _, _ => none
  | n + 1, a2, x => (if (x.1 251 1) ≤ a2 then (some x) else (if (16 : Int32) ≤ a2 then (some x) else (if m_in a2 16 = true then (if (x.1 252 a2.toNatClampNeg) < 0 then (f_X8_tally_L2 r1 n (a2 + (1 : Int32)) x) else (if m_in a2 16 = true then (if (16 : Int32) ≤ (x.1 252 a2.toNatClampNeg) then (f_X8_tally_L2 r1 n (a2 + (1 : Int32)) x) else (if m_in a2 16 = true then (if m_in (x.1 252 a2.toNatClampNeg) 16 = true then (if m_in (x.1 252 a2.toNatClampNeg) 16 = true then (m_let (m_xs x r1 (x.1 252 a2.toNatClampNeg).toNatClampNeg ((x.1 r1 (x.1 252 a2.toNatClampNeg).toNatClampNeg) + (1 : Int32))) fun x1 => (f_X8_tally_L2 r1 n (a2 + (1 : Int32)) x1)) else none) else none) else none)) else none)) else none)))
def f_X8_tally (r1 : Nat) (x : mX) : Option mX := (f_X8_tally_L2 r1 mF (0 : Int32) x)
set_option maxRecDepth 20000 in
set_option maxHeartbeats 2000000 in
theorem f_X8_tally_L2_18_snd {fm : Value} {L : Nat} {xs : Nat → Int32} (y : mY) : ∀ (n : Nat) (a2 : Int32) (x : mX), mS fm L xs (fun r : mX => (mU, mk r y)) pg_X8_tally 2 [.ref 251, .ref 18, .int a2] [] (mk x y) (f_X8_tally_L2 18 n a2 x) := by
  intro n
  induction n with
  | zero => intro a2 x; exact mS_none
  | succ n ih =>
    intro a2 x
    rw [f_X8_tally_L2]
    refine mS_steps (pc' := 7) (ls' := [.ref 251, .ref 18, .int a2]) (st' := [.int (x.1 251 1), .int a2]) (mem' := (mk x y)) 3 rfl ?_
    refine mS_ic3 rfl (fun _ => ?_) (fun _ => ?_)
    · exact mS_retv ⟨_, _, _, _, _, rfl⟩ rfl
    · refine mS_steps (pc' := 13) (ls' := [.ref 251, .ref 18, .int a2]) (st' := [.int (16 : Int32), .int a2]) (mem' := (mk x y)) 2 rfl ?_
      refine mS_ic3 rfl (fun _ => ?_) (fun _ => ?_)
      · exact mS_retv ⟨_, _, _, _, _, rfl⟩ rfl
      · refine mS_steps (pc' := 21) (ls' := [.ref 251, .ref 18, .int a2]) (st' := [.int a2, .ref 252]) (mem' := (mk x y)) 3 rfl ?_
        refine mS_ald (b := 0) (n := 16) (z := (x.1 252 a2.toNatClampNeg)) rfl (by decide) rfl (by decide) rfl (fun _ => ?_)
        refine mS_if2 rfl (fun _ => ?_) (fun _ => ?_)
        · refine mS_steps (pc' := 2) (ls' := [.ref 251, .ref 18, .int (a2 + (1 : Int32))]) (st' := []) (mem' := (mk x y)) 2 rfl ?_
          exact ih (a2 + (1 : Int32)) x
        · refine mS_steps (pc' := 30) (ls' := [.ref 251, .ref 18, .int a2]) (st' := [.int a2, .ref 252]) (mem' := (mk x y)) 3 rfl ?_
          refine mS_ald (b := 0) (n := 16) (z := (x.1 252 a2.toNatClampNeg)) rfl (by decide) rfl (by decide) rfl (fun _ => ?_)
          refine mS_steps (pc' := 33) (ls' := [.ref 251, .ref 18, .int a2]) (st' := [.int (16 : Int32), .int (x.1 252 a2.toNatClampNeg)]) (mem' := (mk x y)) 2 rfl ?_
          refine mS_ic3 rfl (fun _ => ?_) (fun _ => ?_)
          · refine mS_steps (pc' := 2) (ls' := [.ref 251, .ref 18, .int (a2 + (1 : Int32))]) (st' := []) (mem' := (mk x y)) 2 rfl ?_
            exact ih (a2 + (1 : Int32)) x
          · refine mS_steps (pc' := 42) (ls' := [.ref 251, .ref 18, .int a2]) (st' := [.int a2, .ref 252, .ref 18]) (mem' := (mk x y)) 4 rfl ?_
            refine mS_ald (b := 0) (n := 16) (z := (x.1 252 a2.toNatClampNeg)) rfl (by decide) rfl (by decide) rfl (fun _ => ?_)
            refine mS_steps (pc' := 44) (ls' := [.ref 251, .ref 18, .int a2]) (st' := [.int (x.1 252 a2.toNatClampNeg), .ref 18, .int (x.1 252 a2.toNatClampNeg), .ref 18]) (mem' := (mk x y)) 1 rfl ?_
            refine mS_ald (b := 0) (n := 16) (z := (x.1 18 (x.1 252 a2.toNatClampNeg).toNatClampNeg)) rfl (by decide) rfl (by decide) rfl (fun _ => ?_)
            refine mS_steps (pc' := 47) (ls' := [.ref 251, .ref 18, .int a2]) (st' := [.int ((x.1 18 (x.1 252 a2.toNatClampNeg).toNatClampNeg) + (1 : Int32)), .int (x.1 252 a2.toNatClampNeg), .ref 18]) (mem' := (mk x y)) 2 rfl ?_
            refine mS_ast0x (n := 16) rfl rfl (by decide) (fun _ => ?_)
            refine mS_letx (fun x1 => ?_)
            refine mS_steps (pc' := 2) (ls' := [.ref 251, .ref 18, .int (a2 + (1 : Int32))]) (st' := []) (mem' := (mk x1 y)) 2 rfl ?_
            exact ih (a2 + (1 : Int32)) x1
set_option maxRecDepth 20000 in
set_option maxHeartbeats 2000000 in
theorem f_X8_tally_18_snd {fm : Value} {L : Nat} {xs : Nat → Int32} (x : mX) (y : mY) : mS fm L xs (fun r : mX => (mU, mk r y)) pg_X8_tally 0 (m_entry [.ref 251, .ref 18] 3) [] (mk x y) ((f_X8_tally 18 x)) := by
  unfold f_X8_tally
  refine mS_steps (pc' := 0) (ls' := [.ref 251, .ref 18, mU]) (st' := []) (mem' := (mk x y)) 0 rfl ?_
  refine mS_steps (pc' := 2) (ls' := [.ref 251, .ref 18, .int (0 : Int32)]) (st' := []) (mem' := (mk x y)) 2 rfl ?_
  refine f_X8_tally_L2_18_snd y mF (0 : Int32) x
set_option maxRecDepth 20000 in
set_option maxHeartbeats 2000000 in
theorem f_X8_tally_L2_253_snd {fm : Value} {L : Nat} {xs : Nat → Int32} (y : mY) : ∀ (n : Nat) (a2 : Int32) (x : mX), mS fm L xs (fun r : mX => (mU, mk r y)) pg_X8_tally 2 [.ref 251, .ref 253, .int a2] [] (mk x y) (f_X8_tally_L2 253 n a2 x) := by
  intro n
  induction n with
  | zero => intro a2 x; exact mS_none
  | succ n ih =>
    intro a2 x
    rw [f_X8_tally_L2]
    refine mS_steps (pc' := 7) (ls' := [.ref 251, .ref 253, .int a2]) (st' := [.int (x.1 251 1), .int a2]) (mem' := (mk x y)) 3 rfl ?_
    refine mS_ic3 rfl (fun _ => ?_) (fun _ => ?_)
    · exact mS_retv ⟨_, _, _, _, _, rfl⟩ rfl
    · refine mS_steps (pc' := 13) (ls' := [.ref 251, .ref 253, .int a2]) (st' := [.int (16 : Int32), .int a2]) (mem' := (mk x y)) 2 rfl ?_
      refine mS_ic3 rfl (fun _ => ?_) (fun _ => ?_)
      · exact mS_retv ⟨_, _, _, _, _, rfl⟩ rfl
      · refine mS_steps (pc' := 21) (ls' := [.ref 251, .ref 253, .int a2]) (st' := [.int a2, .ref 252]) (mem' := (mk x y)) 3 rfl ?_
        refine mS_ald (b := 0) (n := 16) (z := (x.1 252 a2.toNatClampNeg)) rfl (by decide) rfl (by decide) rfl (fun _ => ?_)
        refine mS_if2 rfl (fun _ => ?_) (fun _ => ?_)
        · refine mS_steps (pc' := 2) (ls' := [.ref 251, .ref 253, .int (a2 + (1 : Int32))]) (st' := []) (mem' := (mk x y)) 2 rfl ?_
          exact ih (a2 + (1 : Int32)) x
        · refine mS_steps (pc' := 30) (ls' := [.ref 251, .ref 253, .int a2]) (st' := [.int a2, .ref 252]) (mem' := (mk x y)) 3 rfl ?_
          refine mS_ald (b := 0) (n := 16) (z := (x.1 252 a2.toNatClampNeg)) rfl (by decide) rfl (by decide) rfl (fun _ => ?_)
          refine mS_steps (pc' := 33) (ls' := [.ref 251, .ref 253, .int a2]) (st' := [.int (16 : Int32), .int (x.1 252 a2.toNatClampNeg)]) (mem' := (mk x y)) 2 rfl ?_
          refine mS_ic3 rfl (fun _ => ?_) (fun _ => ?_)
          · refine mS_steps (pc' := 2) (ls' := [.ref 251, .ref 253, .int (a2 + (1 : Int32))]) (st' := []) (mem' := (mk x y)) 2 rfl ?_
            exact ih (a2 + (1 : Int32)) x
          · refine mS_steps (pc' := 42) (ls' := [.ref 251, .ref 253, .int a2]) (st' := [.int a2, .ref 252, .ref 253]) (mem' := (mk x y)) 4 rfl ?_
            refine mS_ald (b := 0) (n := 16) (z := (x.1 252 a2.toNatClampNeg)) rfl (by decide) rfl (by decide) rfl (fun _ => ?_)
            refine mS_steps (pc' := 44) (ls' := [.ref 251, .ref 253, .int a2]) (st' := [.int (x.1 252 a2.toNatClampNeg), .ref 253, .int (x.1 252 a2.toNatClampNeg), .ref 253]) (mem' := (mk x y)) 1 rfl ?_
            refine mS_ald (b := 0) (n := 16) (z := (x.1 253 (x.1 252 a2.toNatClampNeg).toNatClampNeg)) rfl (by decide) rfl (by decide) rfl (fun _ => ?_)
            refine mS_steps (pc' := 47) (ls' := [.ref 251, .ref 253, .int a2]) (st' := [.int ((x.1 253 (x.1 252 a2.toNatClampNeg).toNatClampNeg) + (1 : Int32)), .int (x.1 252 a2.toNatClampNeg), .ref 253]) (mem' := (mk x y)) 2 rfl ?_
            refine mS_ast0x (n := 16) rfl rfl (by decide) (fun _ => ?_)
            refine mS_letx (fun x1 => ?_)
            refine mS_steps (pc' := 2) (ls' := [.ref 251, .ref 253, .int (a2 + (1 : Int32))]) (st' := []) (mem' := (mk x1 y)) 2 rfl ?_
            exact ih (a2 + (1 : Int32)) x1
set_option maxRecDepth 20000 in
set_option maxHeartbeats 2000000 in
theorem f_X8_tally_253_snd {fm : Value} {L : Nat} {xs : Nat → Int32} (x : mX) (y : mY) : mS fm L xs (fun r : mX => (mU, mk r y)) pg_X8_tally 0 (m_entry [.ref 251, .ref 253] 3) [] (mk x y) ((f_X8_tally 253 x)) := by
  unfold f_X8_tally
  refine mS_steps (pc' := 0) (ls' := [.ref 251, .ref 253, mU]) (st' := []) (mem' := (mk x y)) 0 rfl ?_
  refine mS_steps (pc' := 2) (ls' := [.ref 251, .ref 253, .int (0 : Int32)]) (st' := []) (mem' := (mk x y)) 2 rfl ?_
  refine f_X8_tally_L2_253_snd y mF (0 : Int32) x
def f_X10_send (p1 : Int32) (p2 : Int32) (x : mX) : Option (Int32 × mX) := ((f_X10_canGo p1 p2 x).bind fun q1 => (if q1.1 = 0 then (some ((-1 : Int32), q1.2)) else ((f_X2_keep q1.2).bind fun q2 => ((f_X6_live 14 q2).bind fun q3 => ((f_X8_run p1 p2 q3 q2).bind fun q4 => ((f_X8_tally 18 q4).bind fun q5 => (m_let (m_xs q5 14 7 ((q5.1 14 7) + (1 : Int32))) fun x6 => (m_let (m_xs x6 14 9 ((x6.1 14 9) + (x6.1 251 1))) fun x7 => (m_jn (fun x9 => (if (x9.1 251 0) = 0 then (some ((0 : Int32), x9)) else (some ((1 : Int32), x9)))) (fun j8 => if (x7.1 251 0) = 0 then (j8 x7) else (m_let (m_xs x7 14 8 ((x7.1 14 8) + (1 : Int32))) fun x10 => (j8 x10))))))))))))
set_option maxRecDepth 20000 in
set_option maxHeartbeats 2000000 in
theorem f_X10_send_snd {fm : Value} {L : Nat} {xs : Nat → Int32} (p1 : Int32) (p2 : Int32) (x : mX) (y : mY) : mS fm L xs (fun r : (Int32 × mX) => (.int r.1, mk r.2 y)) pg_X10_send 0 (m_entry [.ref 0, .int p1, .int p2] 3) [] (mk x y) ((f_X10_send p1 p2 x)) := by
  unfold f_X10_send
  refine mS_steps (pc' := 0) (ls' := [.ref 0, .int p1, .int p2]) (st' := []) (mem' := (mk x y)) 0 rfl ?_
  refine mS_steps (pc' := 3) (ls' := [.ref 0, .int p1, .int p2]) (st' := [.int p2, .int p1, .ref 0]) (mem' := (mk x y)) 3 rfl ?_
  refine mS_bind (fun q1 hq1 => mS_call 135 3 [.ref 0, .int p1, .int p2] [] rfl rfl rfl ⟨_, _, _, rfl, rfl⟩ (Nat.le_of_ble_eq_true rfl) (Nat.le_of_ble_eq_true rfl) hq1 (f_X10_canGo_snd p1 p2 x y) ?_)
  refine mS_steps (pc' := 6) (ls' := [.ref 0, .int p1, .int p2]) (st' := [.int q1.1]) (mem' := (mk q1.2 y)) 0 rfl ?_
  refine mS_if1 rfl (fun _ => ?_) (fun _ => ?_)
  · refine mS_steps (pc' := 10) (ls' := [.ref 0, .int p1, .int p2]) (st' := [.int (-1 : Int32)]) (mem' := (mk q1.2 y)) 1 rfl ?_
    exact mS_reti ⟨_, _, _, _, _, rfl, rfl⟩ rfl
  · refine mS_steps (pc' := 19) (ls' := [.ref 0, .int p1, .int p2]) (st' := [.ref 14, .ref 19]) (mem' := (mk q1.2 y)) 4 rfl ?_
    refine mS_bind (fun q2 hq2 => mS_call 95 2 [.ref 19, .ref 14] [] rfl rfl rfl ⟨_, _, _, rfl, rfl⟩ (Nat.le_of_ble_eq_true rfl) (Nat.le_of_ble_eq_true rfl) hq2 (f_X2_keep_snd  q1.2 y) ?_)
    refine mS_steps (pc' := 36) (ls' := [.ref 0, .int p1, .int p2]) (st' := [.ref 14, .int p2, .int p1, .ref 234, .ref 251]) (mem' := (mk q2 y)) 8 rfl ?_
    refine mS_bind (fun q3 hq3 => mS_call 61 1 [.ref 14] [.int p2, .int p1, .ref 234, .ref 251] rfl rfl rfl ⟨_, _, _, rfl, rfl⟩ (Nat.le_of_ble_eq_true rfl) (Nat.le_of_ble_eq_true rfl) hq3 (f_X6_live_14_snd  q2 y) ?_)
    refine mS_steps (pc' := 39) (ls' := [.ref 0, .int p1, .int p2]) (st' := [.int q3, .int p2, .int p1, .ref 234, .ref 251]) (mem' := (mk q2 y)) 0 rfl ?_
    refine mS_bind (fun q4 hq4 => mS_call 138 5 [.ref 251, .ref 234, .int p1, .int p2, .int q3] [] rfl rfl rfl ⟨_, _, _, rfl, rfl⟩ (Nat.le_of_ble_eq_true rfl) (Nat.le_of_ble_eq_true rfl) hq4 (f_X8_run_snd p1 p2 q3 q2 y) ?_)
    refine mS_steps (pc' := 53) (ls' := [.ref 0, .int p1, .int p2]) (st' := [.ref 18, .ref 251]) (mem' := (mk q4 y)) 5 rfl ?_
    refine mS_bind (fun q5 hq5 => mS_call 139 2 [.ref 251, .ref 18] [] rfl rfl rfl ⟨_, _, _, rfl, rfl⟩ (Nat.le_of_ble_eq_true rfl) (Nat.le_of_ble_eq_true rfl) hq5 (f_X8_tally_18_snd  q4 y) ?_)
    refine mS_steps (pc' := 66) (ls' := [.ref 0, .int p1, .int p2]) (st' := [.int ((q5.1 14 7) + (1 : Int32)), .ref 14]) (mem' := (mk q5 y)) 6 rfl ?_
    refine mS_putx rfl rfl (by decide) rfl ?_
    refine mS_letx (fun x6 => ?_)
    refine mS_steps (pc' := 85) (ls' := [.ref 0, .int p1, .int p2]) (st' := [.int ((x6.1 14 9) + (x6.1 251 1)), .ref 14]) (mem' := (mk x6 y)) 8 rfl ?_
    refine mS_putx rfl rfl (by decide) rfl ?_
    refine mS_letx (fun x7 => ?_)
    refine mS_steps (pc' := 95) (ls' := [.ref 0, .int p1, .int p2]) (st' := [.int (x7.1 251 0)]) (mem' := (mk x7 y)) 3 rfl ?_
    refine mS_jn (fun j => ∀ z : mX, mS fm L xs (fun r : (Int32 × mX) => (.int r.1, mk r.2 y)) pg_X10_send 111 [.ref 0, mU, mU] [] (mk z y) (j z)) ?_ ?_
    · intro z
      revert z; intro x9
      refine mS_steps (pc' := 118) (ls' := [.ref 0, mU, mU]) (st' := [.int (x9.1 251 0)]) (mem' := (mk x9 y)) 3 rfl ?_
      refine mS_if0 rfl (fun _ => ?_) (fun _ => ?_)
      · refine mS_steps (pc' := 126) (ls' := [.ref 0, mU, mU]) (st' := [.int (0 : Int32)]) (mem' := (mk x9 y)) 1 rfl ?_
        exact mS_reti ⟨_, _, _, _, _, rfl, rfl⟩ rfl
      · refine mS_steps (pc' := 126) (ls' := [.ref 0, mU, mU]) (st' := [.int (1 : Int32)]) (mem' := (mk x9 y)) 2 rfl ?_
        exact mS_reti ⟨_, _, _, _, _, rfl, rfl⟩ rfl
    intro j8 hj8
    refine mS_if0 rfl (fun _ => ?_) (fun _ => ?_)
    · refine mS_forget [.ref 0, mU, mU] ⟨Or.inr rfl, Or.inl rfl, Or.inl rfl, trivial⟩ ?_
      exact hj8 x7
    · refine mS_steps (pc' := 108) (ls' := [.ref 0, .int p1, .int p2]) (st' := [.int ((x7.1 14 8) + (1 : Int32)), .ref 14]) (mem' := (mk x7 y)) 6 rfl ?_
      refine mS_putx rfl rfl (by decide) rfl ?_
      refine mS_letx (fun x10 => ?_)
      refine mS_forget [.ref 0, mU, mU] ⟨Or.inr rfl, Or.inl rfl, Or.inl rfl, trivial⟩ ?_
      exact hj8 x10
def f_X11_canSend (p1 : Int32) (p2 : Int32) (y : mY) : Option Int32 := ((f_X11_isPost p1 y).bind fun q1 => (if q1 = 0 then (some (0 : Int32)) else ((f_X11_isPost p2 y).bind fun q2 => (if q2 = 0 then (some (0 : Int32)) else (if p1 = p2 then (some (0 : Int32)) else ((f_X11_isOn p1 y).bind fun q3 => (if q3 = 0 then (some (0 : Int32)) else ((f_X11_isOn p2 y).bind fun q4 => (if q4 = 0 then (some (0 : Int32)) else (some (1 : Int32)))))))))))
set_option maxRecDepth 20000 in
set_option maxHeartbeats 2000000 in
theorem f_X11_canSend_snd {fm : Value} {L : Nat} {xs : Nat → Int32} (p1 : Int32) (p2 : Int32) (y : mY) (x : mX) : mS fm L xs (fun r : Int32 => (.int r, (mk x y))) pg_X11_canSend 0 (m_entry [.ref 279, .int p1, .int p2] 3) [] (mk x y) ((f_X11_canSend p1 p2 y)) := by
  unfold f_X11_canSend
  refine mS_steps (pc' := 0) (ls' := [.ref 279, .int p1, .int p2]) (st' := []) (mem' := (mk x y)) 0 rfl ?_
  refine mS_steps (pc' := 2) (ls' := [.ref 279, .int p1, .int p2]) (st' := [.int p1, .ref 279]) (mem' := (mk x y)) 2 rfl ?_
  refine mS_bind (fun q1 hq1 => mS_call 104 2 [.ref 279, .int p1] [] rfl rfl rfl ⟨_, _, _, rfl, rfl⟩ (Nat.le_of_ble_eq_true rfl) (Nat.le_of_ble_eq_true rfl) hq1 (f_X11_isPost_snd p1 y x) ?_)
  refine mS_steps (pc' := 5) (ls' := [.ref 279, .int p1, .int p2]) (st' := [.int q1]) (mem' := (mk x y)) 0 rfl ?_
  refine mS_if0 rfl (fun _ => ?_) (fun _ => ?_)
  · refine mS_steps (pc' := 42) (ls' := [.ref 279, .int p1, .int p2]) (st' := [.int (0 : Int32)]) (mem' := (mk x y)) 1 rfl ?_
    exact mS_reti ⟨_, _, _, _, _, rfl, (by decide)⟩ rfl
  · refine mS_steps (pc' := 10) (ls' := [.ref 279, .int p1, .int p2]) (st' := [.int p2, .ref 279]) (mem' := (mk x y)) 2 rfl ?_
    refine mS_bind (fun q2 hq2 => mS_call 104 2 [.ref 279, .int p2] [] rfl rfl rfl ⟨_, _, _, rfl, rfl⟩ (Nat.le_of_ble_eq_true rfl) (Nat.le_of_ble_eq_true rfl) hq2 (f_X11_isPost_snd p2 y x) ?_)
    refine mS_steps (pc' := 13) (ls' := [.ref 279, .int p1, .int p2]) (st' := [.int q2]) (mem' := (mk x y)) 0 rfl ?_
    refine mS_if0 rfl (fun _ => ?_) (fun _ => ?_)
    · refine mS_steps (pc' := 42) (ls' := [.ref 279, .int p1, .int p2]) (st' := [.int (0 : Int32)]) (mem' := (mk x y)) 1 rfl ?_
      exact mS_reti ⟨_, _, _, _, _, rfl, (by decide)⟩ rfl
    · refine mS_steps (pc' := 18) (ls' := [.ref 279, .int p1, .int p2]) (st' := [.int p2, .int p1]) (mem' := (mk x y)) 2 rfl ?_
      refine mS_ic0 rfl (fun _ => ?_) (fun _ => ?_)
      · refine mS_steps (pc' := 42) (ls' := [.ref 279, .int p1, .int p2]) (st' := [.int (0 : Int32)]) (mem' := (mk x y)) 1 rfl ?_
        exact mS_reti ⟨_, _, _, _, _, rfl, (by decide)⟩ rfl
      · refine mS_steps (pc' := 23) (ls' := [.ref 279, .int p1, .int p2]) (st' := [.int p1, .ref 279]) (mem' := (mk x y)) 2 rfl ?_
        refine mS_bind (fun q3 hq3 => mS_call 88 2 [.ref 279, .int p1] [] rfl rfl rfl ⟨_, _, _, rfl, rfl⟩ (Nat.le_of_ble_eq_true rfl) (Nat.le_of_ble_eq_true rfl) hq3 (f_X11_isOn_snd p1 y x) ?_)
        refine mS_steps (pc' := 26) (ls' := [.ref 279, .int p1, .int p2]) (st' := [.int q3]) (mem' := (mk x y)) 0 rfl ?_
        refine mS_if0 rfl (fun _ => ?_) (fun _ => ?_)
        · refine mS_steps (pc' := 42) (ls' := [.ref 279, .int p1, .int p2]) (st' := [.int (0 : Int32)]) (mem' := (mk x y)) 1 rfl ?_
          exact mS_reti ⟨_, _, _, _, _, rfl, (by decide)⟩ rfl
        · refine mS_steps (pc' := 31) (ls' := [.ref 279, .int p1, .int p2]) (st' := [.int p2, .ref 279]) (mem' := (mk x y)) 2 rfl ?_
          refine mS_bind (fun q4 hq4 => mS_call 88 2 [.ref 279, .int p2] [] rfl rfl rfl ⟨_, _, _, rfl, rfl⟩ (Nat.le_of_ble_eq_true rfl) (Nat.le_of_ble_eq_true rfl) hq4 (f_X11_isOn_snd p2 y x) ?_)
          refine mS_steps (pc' := 34) (ls' := [.ref 279, .int p1, .int p2]) (st' := [.int q4]) (mem' := (mk x y)) 0 rfl ?_
          refine mS_if0 rfl (fun _ => ?_) (fun _ => ?_)
          · refine mS_steps (pc' := 42) (ls' := [.ref 279, .int p1, .int p2]) (st' := [.int (0 : Int32)]) (mem' := (mk x y)) 1 rfl ?_
            exact mS_reti ⟨_, _, _, _, _, rfl, (by decide)⟩ rfl
          · refine mS_steps (pc' := 42) (ls' := [.ref 279, .int p1, .int p2]) (st' := [.int (1 : Int32)]) (mem' := (mk x y)) 2 rfl ?_
            exact mS_reti ⟨_, _, _, _, _, rfl, (by decide)⟩ rfl
def f_X11_lays__L2 (a1 : Int32) : Nat → Int32 → mY → (mY → Option mY) → Option mY
  | 0, _, _, _ => none
  | n + 1, a3, y, k26 => (if (8 : Int32) ≤ a3 then (k26 y) else (if m_in (((8 : Int32) * a1) + a3) 24 = true then (m_let (m_ys y 293 (((8 : Int32) * a1) + a3).toNatClampNeg (0 : Int32)) fun y1 => (f_X11_lays__L2 a1 n (a3 + (1 : Int32)) y1 k26)) else none))
def f_X11_lays__L28 (a1 : Int32) (a2 : Int32) : Nat → Int32 → mY → Option mY
  | 0, _, _ => none
  | n + 1, a3, y => (if (y.1 289 4) ≤ a3 then (some y) else (if (f_X11_has a2 a3) = 0 then (f_X11_lays__L28 a1 a2 n (a3 + (1 : Int32)) y) else (if m_in ((8 : Int32) + a3) 72 = true then (if m_in (((8 : Int32) * a1) + (y.1 289 ((8 : Int32) + a3).toNatClampNeg)) 24 = true then (if m_in ((24 : Int32) + a3) 72 = true then (if m_in (((8 : Int32) * a1) + (y.1 289 ((8 : Int32) + a3).toNatClampNeg)) 24 = true then (m_let (m_ys y 293 (((8 : Int32) * a1) + (y.1 289 ((8 : Int32) + a3).toNatClampNeg)).toNatClampNeg ((y.1 293 (((8 : Int32) * a1) + (y.1 289 ((8 : Int32) + a3).toNatClampNeg)).toNatClampNeg) ||| ((1 : Int32) <<< ((y.1 289 ((24 : Int32) + a3).toNatClampNeg) &&& 31)))) fun y3 => (if m_in ((24 : Int32) + a3) 72 = true then (if m_in (((8 : Int32) * a1) + (y3.1 289 ((24 : Int32) + a3).toNatClampNeg)) 24 = true then (if m_in ((8 : Int32) + a3) 72 = true then (if m_in (((8 : Int32) * a1) + (y3.1 289 ((24 : Int32) + a3).toNatClampNeg)) 24 = true then (m_let (m_ys y3 293 (((8 : Int32) * a1) + (y3.1 289 ((24 : Int32) + a3).toNatClampNeg)).toNatClampNeg ((y3.1 293 (((8 : Int32) * a1) + (y3.1 289 ((24 : Int32) + a3).toNatClampNeg)).toNatClampNeg) ||| ((1 : Int32) <<< ((y3.1 289 ((8 : Int32) + a3).toNatClampNeg) &&& 31)))) fun y4 => (f_X11_lays__L28 a1 a2 n (a3 + (1 : Int32)) y4)) else none) else none) else none) else none)) else none) else none) else none) else none)))
def f_X11_lays_ (p1 : Int32) (p2 : Int32) (y : mY) : Option mY := (f_X11_lays__L2 p1 mF (0 : Int32) y (fun y2 => (f_X11_lays__L28 p1 p2 mF (0 : Int32) y2)))
set_option maxRecDepth 20000 in
set_option maxHeartbeats 2000000 in
theorem f_X11_lays__L2_snd {fm : Value} {L : Nat} {xs : Nat → Int32} (a1 : Int32) (a2 : Int32) (x : mX) (k26 : mY → Option mY) (hk26 : ∀ (z0 : mY), mS fm L xs (fun r : mY => (mU, mk x r)) pg_X11_lays_ 26 [.ref 279, .int a1, .int a2, mU] [] (mk x z0) (k26 z0)) : ∀ (n : Nat) (a3 : Int32) (y : mY), mS fm L xs (fun r : mY => (mU, mk x r)) pg_X11_lays_ 2 [.ref 279, .int a1, .int a2, .int a3] [] (mk x y) (f_X11_lays__L2 a1 n a3 y k26) := by
  intro n
  induction n with
  | zero => intro a3 y; exact mS_none
  | succ n ih =>
    intro a3 y
    rw [f_X11_lays__L2]
    refine mS_steps (pc' := 5) (ls' := [.ref 279, .int a1, .int a2, .int a3]) (st' := [.int (8 : Int32), .int a3]) (mem' := (mk x y)) 2 rfl ?_
    refine mS_ic3 rfl (fun _ => ?_) (fun _ => ?_)
    · refine mS_forget [.ref 279, .int a1, .int a2, mU] ⟨Or.inr rfl, Or.inr rfl, Or.inr rfl, Or.inl rfl, trivial⟩ ?_
      exact hk26 y
    · refine mS_steps (pc' := 19) (ls' := [.ref 279, .int a1, .int a2, .int a3]) (st' := [.int (0 : Int32), .int (((8 : Int32) * a1) + a3), .ref 293]) (mem' := (mk x y)) 8 rfl ?_
      refine mS_ast0y (n := 24) rfl rfl (by decide) (fun _ => ?_)
      refine mS_lety (fun y1 => ?_)
      refine mS_steps (pc' := 2) (ls' := [.ref 279, .int a1, .int a2, .int (a3 + (1 : Int32))]) (st' := []) (mem' := (mk x y1)) 2 rfl ?_
      exact ih (a3 + (1 : Int32)) y1
set_option maxRecDepth 20000 in
set_option maxHeartbeats 2000000 in
theorem f_X11_lays__L28_snd {fm : Value} {L : Nat} {xs : Nat → Int32} (a1 : Int32) (a2 : Int32) (x : mX) : ∀ (n : Nat) (a3 : Int32) (y : mY), mS fm L xs (fun r : mY => (mU, mk x r)) pg_X11_lays_ 28 [.ref 279, .int a1, .int a2, .int a3] [] (mk x y) (f_X11_lays__L28 a1 a2 n a3 y) := by
  intro n
  induction n with
  | zero => intro a3 y; exact mS_none
  | succ n ih =>
    intro a3 y
    rw [f_X11_lays__L28]
    refine mS_steps (pc' := 34) (ls' := [.ref 279, .int a1, .int a2, .int a3]) (st' := [.int (4 : Int32), .ref 289, .int a3]) (mem' := (mk x y)) 4 rfl ?_
    refine mS_aldc (b := 0) (n := 72) (c := 4) (z := (y.1 289 4)) rfl (by decide) rfl (by decide) (by decide) (by decide) rfl ?_
    refine mS_ic3 rfl (fun _ => ?_) (fun _ => ?_)
    · exact mS_retv ⟨_, _, _, _, _, rfl⟩ rfl
    · refine mS_steps (pc' := 40) (ls' := [.ref 279, .int a1, .int a2, .int a3]) (st' := [.int a3, .int a2]) (mem' := (mk x y)) 2 rfl ?_
      refine mS_call (q := (f_X11_has a2 a3)) 87 2 [.int a2, .int a3] [] rfl rfl rfl ⟨_, _, _, rfl, rfl⟩ (Nat.le_of_ble_eq_true rfl) (Nat.le_of_ble_eq_true rfl) rfl (f_X11_has_snd a2 a3 (mk x y)) ?_
      refine mS_steps (pc' := 43) (ls' := [.ref 279, .int a1, .int a2, .int a3]) (st' := [.int (f_X11_has a2 a3)]) (mem' := (mk x y)) 0 rfl ?_
      refine mS_if1 rfl (fun _ => ?_) (fun _ => ?_)
      · refine mS_steps (pc' := 28) (ls' := [.ref 279, .int a1, .int a2, .int (a3 + (1 : Int32))]) (st' := []) (mem' := (mk x y)) 3 rfl ?_
        exact ih (a3 + (1 : Int32)) y
      · refine mS_steps (pc' := 65) (ls' := [.ref 279, .int a1, .int a2, .int a3]) (st' := [.int ((8 : Int32) + a3), .ref 289, .int ((8 : Int32) * a1), .ref 293]) (mem' := (mk x y)) 10 rfl ?_
        refine mS_ald (b := 0) (n := 72) (z := (y.1 289 ((8 : Int32) + a3).toNatClampNeg)) rfl (by decide) rfl (by decide) rfl (fun _ => ?_)
        refine mS_steps (pc' := 68) (ls' := [.ref 279, .int a1, .int a2, .int a3]) (st' := [.int (((8 : Int32) * a1) + (y.1 289 ((8 : Int32) + a3).toNatClampNeg)), .ref 293, .int (((8 : Int32) * a1) + (y.1 289 ((8 : Int32) + a3).toNatClampNeg)), .ref 293]) (mem' := (mk x y)) 2 rfl ?_
        refine mS_ald (b := 0) (n := 24) (z := (y.1 293 (((8 : Int32) * a1) + (y.1 289 ((8 : Int32) + a3).toNatClampNeg)).toNatClampNeg)) rfl (by decide) rfl (by decide) rfl (fun _ => ?_)
        refine mS_steps (pc' := 78) (ls' := [.ref 279, .int a1, .int a2, .int a3]) (st' := [.int ((24 : Int32) + a3), .ref 289, .int (1 : Int32), .int (y.1 293 (((8 : Int32) * a1) + (y.1 289 ((8 : Int32) + a3).toNatClampNeg)).toNatClampNeg), .int (((8 : Int32) * a1) + (y.1 289 ((8 : Int32) + a3).toNatClampNeg)), .ref 293]) (mem' := (mk x y)) 6 rfl ?_
        refine mS_ald (b := 0) (n := 72) (z := (y.1 289 ((24 : Int32) + a3).toNatClampNeg)) rfl (by decide) rfl (by decide) rfl (fun _ => ?_)
        refine mS_steps (pc' := 81) (ls' := [.ref 279, .int a1, .int a2, .int a3]) (st' := [.int ((y.1 293 (((8 : Int32) * a1) + (y.1 289 ((8 : Int32) + a3).toNatClampNeg)).toNatClampNeg) ||| ((1 : Int32) <<< ((y.1 289 ((24 : Int32) + a3).toNatClampNeg) &&& 31))), .int (((8 : Int32) * a1) + (y.1 289 ((8 : Int32) + a3).toNatClampNeg)), .ref 293]) (mem' := (mk x y)) 2 rfl ?_
        refine mS_ast0y (n := 24) rfl rfl (by decide) (fun _ => ?_)
        refine mS_lety (fun y3 => ?_)
        refine mS_steps (pc' := 98) (ls' := [.ref 279, .int a1, .int a2, .int a3]) (st' := [.int ((24 : Int32) + a3), .ref 289, .int ((8 : Int32) * a1), .ref 293]) (mem' := (mk x y3)) 10 rfl ?_
        refine mS_ald (b := 0) (n := 72) (z := (y3.1 289 ((24 : Int32) + a3).toNatClampNeg)) rfl (by decide) rfl (by decide) rfl (fun _ => ?_)
        refine mS_steps (pc' := 101) (ls' := [.ref 279, .int a1, .int a2, .int a3]) (st' := [.int (((8 : Int32) * a1) + (y3.1 289 ((24 : Int32) + a3).toNatClampNeg)), .ref 293, .int (((8 : Int32) * a1) + (y3.1 289 ((24 : Int32) + a3).toNatClampNeg)), .ref 293]) (mem' := (mk x y3)) 2 rfl ?_
        refine mS_ald (b := 0) (n := 24) (z := (y3.1 293 (((8 : Int32) * a1) + (y3.1 289 ((24 : Int32) + a3).toNatClampNeg)).toNatClampNeg)) rfl (by decide) rfl (by decide) rfl (fun _ => ?_)
        refine mS_steps (pc' := 111) (ls' := [.ref 279, .int a1, .int a2, .int a3]) (st' := [.int ((8 : Int32) + a3), .ref 289, .int (1 : Int32), .int (y3.1 293 (((8 : Int32) * a1) + (y3.1 289 ((24 : Int32) + a3).toNatClampNeg)).toNatClampNeg), .int (((8 : Int32) * a1) + (y3.1 289 ((24 : Int32) + a3).toNatClampNeg)), .ref 293]) (mem' := (mk x y3)) 6 rfl ?_
        refine mS_ald (b := 0) (n := 72) (z := (y3.1 289 ((8 : Int32) + a3).toNatClampNeg)) rfl (by decide) rfl (by decide) rfl (fun _ => ?_)
        refine mS_steps (pc' := 114) (ls' := [.ref 279, .int a1, .int a2, .int a3]) (st' := [.int ((y3.1 293 (((8 : Int32) * a1) + (y3.1 289 ((24 : Int32) + a3).toNatClampNeg)).toNatClampNeg) ||| ((1 : Int32) <<< ((y3.1 289 ((8 : Int32) + a3).toNatClampNeg) &&& 31))), .int (((8 : Int32) * a1) + (y3.1 289 ((24 : Int32) + a3).toNatClampNeg)), .ref 293]) (mem' := (mk x y3)) 2 rfl ?_
        refine mS_ast0y (n := 24) rfl rfl (by decide) (fun _ => ?_)
        refine mS_lety (fun y4 => ?_)
        refine mS_steps (pc' := 28) (ls' := [.ref 279, .int a1, .int a2, .int (a3 + (1 : Int32))]) (st' := []) (mem' := (mk x y4)) 2 rfl ?_
        exact ih (a3 + (1 : Int32)) y4
set_option maxRecDepth 20000 in
set_option maxHeartbeats 2000000 in
theorem f_X11_lays__snd {fm : Value} {L : Nat} {xs : Nat → Int32} (p1 : Int32) (p2 : Int32) (y : mY) (x : mX) : mS fm L xs (fun r : mY => (mU, mk x r)) pg_X11_lays_ 0 (m_entry [.ref 279, .int p1, .int p2] 4) [] (mk x y) ((f_X11_lays_ p1 p2 y)) := by
  unfold f_X11_lays_
  refine mS_steps (pc' := 0) (ls' := [.ref 279, .int p1, .int p2, mU]) (st' := []) (mem' := (mk x y)) 0 rfl ?_
  refine mS_steps (pc' := 2) (ls' := [.ref 279, .int p1, .int p2, .int (0 : Int32)]) (st' := []) (mem' := (mk x y)) 2 rfl ?_
  refine f_X11_lays__L2_snd p1 p2 x _ ?_ mF (0 : Int32) y
  · intro y2
    refine mS_steps (pc' := 28) (ls' := [.ref 279, .int p1, .int p2, .int (0 : Int32)]) (st' := []) (mem' := (mk x y2)) 2 rfl ?_
    refine f_X11_lays__L28_snd p1 p2 x mF (0 : Int32) y2
def f_X11_laysNet (p1 : Int32) (y : mY) : Option (Int32 × mY) := (m_jn (fun w2 => ((f_X11_lays_ p1 w2 y).bind fun q3 => (if p1 = 0 then (some ((q3.1 289 0), q3)) else (some ((q3.1 289 2), q3))))) (fun j1 => if p1 = 0 then ((f_X11_netLinks y).bind fun q4 => (j1 q4)) else (j1 (y.1 289 3))))
set_option maxRecDepth 20000 in
set_option maxHeartbeats 2000000 in
theorem f_X11_laysNet_snd {fm : Value} {L : Nat} {xs : Nat → Int32} (p1 : Int32) (y : mY) (x : mX) : mS fm L xs (fun r : (Int32 × mY) => (.int r.1, mk x r.2)) pg_X11_laysNet 0 (m_entry [.ref 279, .int p1] 2) [] (mk x y) ((f_X11_laysNet p1 y)) := by
  unfold f_X11_laysNet
  refine mS_steps (pc' := 0) (ls' := [.ref 279, .int p1]) (st' := []) (mem' := (mk x y)) 0 rfl ?_
  refine mS_steps (pc' := 3) (ls' := [.ref 279, .int p1]) (st' := [.int p1, .int p1, .ref 279]) (mem' := (mk x y)) 3 rfl ?_
  refine mS_jn (fun j => ∀ z : Int32, mS fm L xs (fun r : (Int32 × mY) => (.int r.1, mk x r.2)) pg_X11_laysNet 19 [.ref 279, .int p1] [.int z, .int p1, .ref 279] (mk x y) (j z)) ?_ ?_
  · intro z
    revert z; intro w2
    refine mS_bind (fun q3 hq3 => mS_call 142 3 [.ref 279, .int p1, .int w2] [] rfl rfl rfl ⟨_, _, _, rfl, rfl⟩ (Nat.le_of_ble_eq_true rfl) (Nat.le_of_ble_eq_true rfl) hq3 (f_X11_lays__snd p1 w2 y x) ?_)
    refine mS_steps (pc' := 23) (ls' := [.ref 279, .int p1]) (st' := [.int p1]) (mem' := (mk x q3)) 1 rfl ?_
    refine mS_if1 rfl (fun _ => ?_) (fun _ => ?_)
    · refine mS_steps (pc' := 31) (ls' := [.ref 279, .int p1]) (st' := [.int (0 : Int32), .ref 289]) (mem' := (mk x q3)) 3 rfl ?_
      refine mS_aldc (b := 0) (n := 72) (c := 0) (z := (q3.1 289 0)) rfl (by decide) rfl (by decide) (by decide) (by decide) rfl ?_
      refine mS_steps (pc' := 41) (ls' := [.ref 279, .int p1]) (st' := [.int (q3.1 289 0)]) (mem' := (mk x q3)) 1 rfl ?_
      exact mS_reti ⟨_, _, _, _, _, rfl, rfl⟩ rfl
    · refine mS_steps (pc' := 40) (ls' := [.ref 279, .int p1]) (st' := [.int (2 : Int32), .ref 289]) (mem' := (mk x q3)) 3 rfl ?_
      refine mS_aldc (b := 0) (n := 72) (c := 2) (z := (q3.1 289 2)) rfl (by decide) rfl (by decide) (by decide) (by decide) rfl ?_
      exact mS_reti ⟨_, _, _, _, _, rfl, rfl⟩ rfl
  intro j1 hj1
  refine mS_if1 rfl (fun _ => ?_) (fun _ => ?_)
  · refine mS_steps (pc' := 7) (ls' := [.ref 279, .int p1]) (st' := [.ref 279, .int p1, .ref 279]) (mem' := (mk x y)) 1 rfl ?_
    refine mS_bind (fun q4 hq4 => mS_call 89 1 [.ref 279] [.int p1, .ref 279] rfl rfl rfl ⟨_, _, _, rfl, rfl⟩ (Nat.le_of_ble_eq_true rfl) (Nat.le_of_ble_eq_true rfl) hq4 (f_X11_netLinks_snd  y x) ?_)
    refine mS_steps (pc' := 19) (ls' := [.ref 279, .int p1]) (st' := [.int q4, .int p1, .ref 279]) (mem' := (mk x y)) 1 rfl ?_
    exact hj1 q4
  · refine mS_steps (pc' := 18) (ls' := [.ref 279, .int p1]) (st' := [.int (3 : Int32), .ref 289, .int p1, .ref 279]) (mem' := (mk x y)) 3 rfl ?_
    refine mS_aldc (b := 0) (n := 72) (c := 3) (z := (y.1 289 3)) rfl (by decide) rfl (by decide) (by decide) (by decide) rfl ?_
    exact hj1 (y.1 289 3)
def f_X11_bitsOf_L4 : Nat → Int32 → Int32 → Option Int32
  | 0, _, _ => none
  | n + 1, a1, a2 => (if a2 ≤ 0 then (some a1) else (f_X11_bitsOf_L4 n (a1 + (a2 &&& (1 : Int32))) (a2 >>> ((1 : Int32) &&& 31))))
def f_X11_bitsOf (p0 : Int32) : Option Int32 := (f_X11_bitsOf_L4 mF (0 : Int32) p0)
set_option maxRecDepth 20000 in
set_option maxHeartbeats 2000000 in
theorem f_X11_bitsOf_L4_snd {fm : Value} {L : Nat} {xs : Nat → Int32} (mem : mM) : ∀ (n : Nat) (a1 : Int32) (a2 : Int32), mS fm L xs (fun r : Int32 => (.int r, mem)) pg_X11_bitsOf 4 [mU, .int a1, .int a2] [] mem (f_X11_bitsOf_L4 n a1 a2) := by
  intro n
  induction n with
  | zero => intro a1 a2; exact mS_none
  | succ n ih =>
    intro a1 a2
    rw [f_X11_bitsOf_L4]
    refine mS_steps (pc' := 5) (ls' := [mU, .int a1, .int a2]) (st' := [.int a2]) (mem' := mem) 1 rfl ?_
    refine mS_if5 rfl (fun _ => ?_) (fun _ => ?_)
    · refine mS_steps (pc' := 22) (ls' := [mU, .int a1, .int a2]) (st' := [.int a1]) (mem' := mem) 1 rfl ?_
      exact mS_reti ⟨_, _, _, _, _, rfl, rfl⟩ rfl
    · refine mS_steps (pc' := 4) (ls' := [mU, .int (a1 + (a2 &&& (1 : Int32))), .int (a2 >>> ((1 : Int32) &&& 31))]) (st' := []) (mem' := mem) 11 rfl ?_
      exact ih (a1 + (a2 &&& (1 : Int32))) (a2 >>> ((1 : Int32) &&& 31))
set_option maxRecDepth 20000 in
set_option maxHeartbeats 2000000 in
theorem f_X11_bitsOf_snd {fm : Value} {L : Nat} {xs : Nat → Int32} (p0 : Int32) (mem : mM) : mS fm L xs (fun r : Int32 => (.int r, mem)) pg_X11_bitsOf 0 (m_entry [.int p0] 3) [] mem ((f_X11_bitsOf p0)) := by
  unfold f_X11_bitsOf
  refine mS_steps (pc' := 0) (ls' := [.int p0, mU, mU]) (st' := []) (mem' := mem) 0 rfl ?_
  refine mS_steps (pc' := 4) (ls' := [.int p0, .int (0 : Int32), .int p0]) (st' := []) (mem' := mem) 4 rfl ?_
  refine mS_forget [mU, .int (0 : Int32), .int p0] ⟨Or.inl rfl, Or.inr rfl, Or.inr rfl, trivial⟩ ?_
  refine f_X11_bitsOf_L4_snd mem mF (0 : Int32) p0
def f_X11_lowestOf_L2 (a0 : Int32) : Nat → Int32 → Option Int32
  | 0, _ => none
  | n + 1, a1 => (if (f_X11_has a0 a1) = 0 then (f_X11_lowestOf_L2 a0 n (a1 + (1 : Int32))) else (some a1))
def f_X11_lowestOf (p0 : Int32) : Option Int32 := (f_X11_lowestOf_L2 p0 mF (0 : Int32))
set_option maxRecDepth 20000 in
set_option maxHeartbeats 2000000 in
theorem f_X11_lowestOf_L2_snd {fm : Value} {L : Nat} {xs : Nat → Int32} (a0 : Int32) (mem : mM) : ∀ (n : Nat) (a1 : Int32), mS fm L xs (fun r : Int32 => (.int r, mem)) pg_X11_lowestOf 2 [.int a0, .int a1] [] mem (f_X11_lowestOf_L2 a0 n a1) := by
  intro n
  induction n with
  | zero => intro a1; exact mS_none
  | succ n ih =>
    intro a1
    rw [f_X11_lowestOf_L2]
    refine mS_steps (pc' := 4) (ls' := [.int a0, .int a1]) (st' := [.int a1, .int a0]) (mem' := mem) 2 rfl ?_
    refine mS_call (q := (f_X11_has a0 a1)) 87 2 [.int a0, .int a1] [] rfl rfl rfl ⟨_, _, _, rfl, rfl⟩ (Nat.le_of_ble_eq_true rfl) (Nat.le_of_ble_eq_true rfl) rfl (f_X11_has_snd a0 a1 mem) ?_
    refine mS_steps (pc' := 7) (ls' := [.int a0, .int a1]) (st' := [.int (f_X11_has a0 a1)]) (mem' := mem) 0 rfl ?_
    refine mS_if1 rfl (fun _ => ?_) (fun _ => ?_)
    · refine mS_steps (pc' := 2) (ls' := [.int a0, .int (a1 + (1 : Int32))]) (st' := []) (mem' := mem) 2 rfl ?_
      exact ih (a1 + (1 : Int32))
    · refine mS_steps (pc' := 17) (ls' := [.int a0, .int a1]) (st' := [.int a1]) (mem' := mem) 1 rfl ?_
      exact mS_reti ⟨_, _, _, _, _, rfl, rfl⟩ rfl
set_option maxRecDepth 20000 in
set_option maxHeartbeats 2000000 in
theorem f_X11_lowestOf_snd {fm : Value} {L : Nat} {xs : Nat → Int32} (p0 : Int32) (mem : mM) : mS fm L xs (fun r : Int32 => (.int r, mem)) pg_X11_lowestOf 0 (m_entry [.int p0] 2) [] mem ((f_X11_lowestOf p0)) := by
  unfold f_X11_lowestOf
  refine mS_steps (pc' := 0) (ls' := [.int p0, mU]) (st' := []) (mem' := mem) 0 rfl ?_
  refine mS_steps (pc' := 2) (ls' := [.int p0, .int (0 : Int32)]) (st' := []) (mem' := mem) 2 rfl ?_
  refine f_X11_lowestOf_L2_snd p0 mem mF (0 : Int32)
def f_X11_comes_L22 (a1 : Int32) (a3 : Int32) (a5 : Int32) : Nat → Int32 → Int32 → mY → (Int32 → Option Int32) → Option Int32
  | 0, _, _, _, _ => none
  | n + 1, a4, a6, y, k64 => (if (8 : Int32) ≤ a6 then (k64 a4) else (if (f_X11_has a5 a6) = 0 then (f_X11_comes_L22 a1 a3 a5 n a4 (a6 + (1 : Int32)) y k64) else (if m_in (((8 : Int32) * a1) + a6) 24 = true then (f_X11_comes_L22 a1 a3 a5 n (a4 ||| ((y.1 293 (((8 : Int32) * a1) + a6).toNatClampNeg) &&& a3)) (a6 + (1 : Int32)) y k64) else none)))
def f_X11_comes_L8 (a1 : Int32) (a3 : Int32) : Nat → Int32 → Int32 → mY → Option Int32
  | 0, _, _, _ => none
  | n + 1, a4, a5, y => (if a4 = a5 then (some a4) else (f_X11_comes_L22 a1 a3 a4 mF a4 (0 : Int32) y (fun v1 => (f_X11_comes_L8 a1 a3 n v1 a4 y))))
def f_X11_comes (p1 : Int32) (p2 : Int32) (p3 : Int32) (y : mY) : Option Int32 := (f_X11_comes_L8 p1 p3 mF ((1 : Int32) <<< (p2 &&& 31)) (0 : Int32) y)
set_option maxRecDepth 20000 in
set_option maxHeartbeats 2000000 in
theorem f_X11_comes_L22_snd {fm : Value} {L : Nat} {xs : Nat → Int32} (a1 : Int32) (a3 : Int32) (a5 : Int32) (y : mY) (x : mX) (k64 : Int32 → Option Int32) (hk64 : ∀ (b4 : Int32), mS fm L xs (fun r : Int32 => (.int r, (mk x y))) pg_X11_comes 64 [.ref 279, .int a1, mU, .int a3, .int b4, .int a5, mU] [] (mk x y) (k64 b4)) : ∀ (n : Nat) (a4 : Int32) (a6 : Int32), mS fm L xs (fun r : Int32 => (.int r, (mk x y))) pg_X11_comes 22 [.ref 279, .int a1, mU, .int a3, .int a4, .int a5, .int a6] [] (mk x y) (f_X11_comes_L22 a1 a3 a5 n a4 a6 y k64) := by
  intro n
  induction n with
  | zero => intro a4 a6; exact mS_none
  | succ n ih =>
    intro a4 a6
    rw [f_X11_comes_L22]
    refine mS_steps (pc' := 26) (ls' := [.ref 279, .int a1, mU, .int a3, .int a4, .int a5, .int a6]) (st' := [.int (8 : Int32), .int a6]) (mem' := (mk x y)) 2 rfl ?_
    refine mS_ic3 rfl (fun _ => ?_) (fun _ => ?_)
    · refine mS_forget [.ref 279, .int a1, mU, .int a3, .int a4, .int a5, mU] ⟨Or.inr rfl, Or.inr rfl, Or.inl rfl, Or.inr rfl, Or.inr rfl, Or.inr rfl, Or.inl rfl, trivial⟩ ?_
      exact hk64 a4
    · refine mS_steps (pc' := 33) (ls' := [.ref 279, .int a1, mU, .int a3, .int a4, .int a5, .int a6]) (st' := [.int a6, .int a5]) (mem' := (mk x y)) 2 rfl ?_
      refine mS_call (q := (f_X11_has a5 a6)) 87 2 [.int a5, .int a6] [] rfl rfl rfl ⟨_, _, _, rfl, rfl⟩ (Nat.le_of_ble_eq_true rfl) (Nat.le_of_ble_eq_true rfl) rfl (f_X11_has_snd a5 a6 (mk x y)) ?_
      refine mS_steps (pc' := 36) (ls' := [.ref 279, .int a1, mU, .int a3, .int a4, .int a5, .int a6]) (st' := [.int (f_X11_has a5 a6)]) (mem' := (mk x y)) 0 rfl ?_
      refine mS_if0 rfl (fun _ => ?_) (fun _ => ?_)
      · refine mS_steps (pc' := 22) (ls' := [.ref 279, .int a1, mU, .int a3, .int a4, .int a5, .int (a6 + (1 : Int32))]) (st' := []) (mem' := (mk x y)) 2 rfl ?_
        exact ih a4 (a6 + (1 : Int32))
      · refine mS_steps (pc' := 52) (ls' := [.ref 279, .int a1, mU, .int a3, .int a4, .int a5, .int a6]) (st' := [.int (((8 : Int32) * a1) + a6), .ref 293, .int a4]) (mem' := (mk x y)) 8 rfl ?_
        refine mS_ald (b := 0) (n := 24) (z := (y.1 293 (((8 : Int32) * a1) + a6).toNatClampNeg)) rfl (by decide) rfl (by decide) rfl (fun _ => ?_)
        refine mS_steps (pc' := 22) (ls' := [.ref 279, .int a1, mU, .int a3, .int (a4 ||| ((y.1 293 (((8 : Int32) * a1) + a6).toNatClampNeg) &&& a3)), .int a5, .int (a6 + (1 : Int32))]) (st' := []) (mem' := (mk x y)) 6 rfl ?_
        exact ih (a4 ||| ((y.1 293 (((8 : Int32) * a1) + a6).toNatClampNeg) &&& a3)) (a6 + (1 : Int32))
set_option maxRecDepth 20000 in
set_option maxHeartbeats 2000000 in
theorem f_X11_comes_L8_snd {fm : Value} {L : Nat} {xs : Nat → Int32} (a1 : Int32) (a3 : Int32) (y : mY) (x : mX) : ∀ (n : Nat) (a4 : Int32) (a5 : Int32), mS fm L xs (fun r : Int32 => (.int r, (mk x y))) pg_X11_comes 8 [.ref 279, .int a1, mU, .int a3, .int a4, .int a5, mU] [] (mk x y) (f_X11_comes_L8 a1 a3 n a4 a5 y) := by
  intro n
  induction n with
  | zero => intro a4 a5; exact mS_none
  | succ n ih =>
    intro a4 a5
    rw [f_X11_comes_L8]
    refine mS_steps (pc' := 12) (ls' := [.ref 279, .int a1, mU, .int a3, .int a4, .int a5, mU]) (st' := [.int a5, .int a4]) (mem' := (mk x y)) 2 rfl ?_
    refine mS_ic0 rfl (fun _ => ?_) (fun _ => ?_)
    · refine mS_steps (pc' := 69) (ls' := [.ref 279, .int a1, mU, .int a3, .int a4, .int a5, mU]) (st' := [.int a4]) (mem' := (mk x y)) 1 rfl ?_
      exact mS_reti ⟨_, _, _, _, _, rfl, rfl⟩ rfl
    · refine mS_steps (pc' := 22) (ls' := [.ref 279, .int a1, mU, .int a3, .int a4, .int a4, .int (0 : Int32)]) (st' := []) (mem' := (mk x y)) 4 rfl ?_
      refine f_X11_comes_L22_snd a1 a3 a4 y x _ ?_ mF a4 (0 : Int32)
      · intro v1
        refine mS_steps (pc' := 8) (ls' := [.ref 279, .int a1, mU, .int a3, .int v1, .int a4, mU]) (st' := []) (mem' := (mk x y)) 1 rfl ?_
        exact ih v1 a4
set_option maxRecDepth 20000 in
set_option maxHeartbeats 2000000 in
theorem f_X11_comes_snd {fm : Value} {L : Nat} {xs : Nat → Int32} (p1 : Int32) (p2 : Int32) (p3 : Int32) (y : mY) (x : mX) : mS fm L xs (fun r : Int32 => (.int r, (mk x y))) pg_X11_comes 0 (m_entry [.ref 279, .int p1, .int p2, .int p3] 7) [] (mk x y) ((f_X11_comes p1 p2 p3 y)) := by
  unfold f_X11_comes
  refine mS_steps (pc' := 0) (ls' := [.ref 279, .int p1, .int p2, .int p3, mU, mU, mU]) (st' := []) (mem' := (mk x y)) 0 rfl ?_
  refine mS_steps (pc' := 8) (ls' := [.ref 279, .int p1, .int p2, .int p3, .int ((1 : Int32) <<< (p2 &&& 31)), .int (0 : Int32), mU]) (st' := []) (mem' := (mk x y)) 6 rfl ?_
  refine mS_forget [.ref 279, .int p1, mU, .int p3, .int ((1 : Int32) <<< (p2 &&& 31)), .int (0 : Int32), mU] ⟨Or.inr rfl, Or.inr rfl, Or.inl rfl, Or.inr rfl, Or.inr rfl, Or.inr rfl, Or.inl rfl, trivial⟩ ?_
  refine f_X11_comes_L8_snd p1 p3 y x mF ((1 : Int32) <<< (p2 &&& 31)) (0 : Int32)
def f_X11_isOne (p1 : Int32) (p2 : Int32) (y : mY) : Option Int32 := (if p2 = 0 then (some (1 : Int32)) else ((f_X11_lowestOf p2).bind fun q1 => ((f_X11_comes p1 q1 p2 y).bind fun q2 => (if q2 = p2 then (some (1 : Int32)) else (some (0 : Int32))))))
set_option maxRecDepth 20000 in
set_option maxHeartbeats 2000000 in
theorem f_X11_isOne_snd {fm : Value} {L : Nat} {xs : Nat → Int32} (p1 : Int32) (p2 : Int32) (y : mY) (x : mX) : mS fm L xs (fun r : Int32 => (.int r, (mk x y))) pg_X11_isOne 0 (m_entry [.ref 279, .int p1, .int p2] 3) [] (mk x y) ((f_X11_isOne p1 p2 y)) := by
  unfold f_X11_isOne
  refine mS_steps (pc' := 0) (ls' := [.ref 279, .int p1, .int p2]) (st' := []) (mem' := (mk x y)) 0 rfl ?_
  refine mS_steps (pc' := 1) (ls' := [.ref 279, .int p1, .int p2]) (st' := [.int p2]) (mem' := (mk x y)) 1 rfl ?_
  refine mS_if0 rfl (fun _ => ?_) (fun _ => ?_)
  · refine mS_steps (pc' := 23) (ls' := [.ref 279, .int p1, .int p2]) (st' := [.int (1 : Int32)]) (mem' := (mk x y)) 2 rfl ?_
    exact mS_reti ⟨_, _, _, _, _, rfl, (by decide)⟩ rfl
  · refine mS_steps (pc' := 7) (ls' := [.ref 279, .int p1, .int p2]) (st' := [.int p2, .int p1, .ref 279]) (mem' := (mk x y)) 3 rfl ?_
    refine mS_bind (fun q1 hq1 => mS_call 145 1 [.int p2] [.int p1, .ref 279] rfl rfl rfl ⟨_, _, _, rfl, rfl⟩ (Nat.le_of_ble_eq_true rfl) (Nat.le_of_ble_eq_true rfl) hq1 (f_X11_lowestOf_snd p2 (mk x y)) ?_)
    refine mS_steps (pc' := 11) (ls' := [.ref 279, .int p1, .int p2]) (st' := [.int p2, .int q1, .int p1, .ref 279]) (mem' := (mk x y)) 1 rfl ?_
    refine mS_bind (fun q2 hq2 => mS_call 146 4 [.ref 279, .int p1, .int q1, .int p2] [] rfl rfl rfl ⟨_, _, _, rfl, rfl⟩ (Nat.le_of_ble_eq_true rfl) (Nat.le_of_ble_eq_true rfl) hq2 (f_X11_comes_snd p1 q1 p2 y x) ?_)
    refine mS_steps (pc' := 15) (ls' := [.ref 279, .int p1, .int p2]) (st' := [.int p2, .int q2]) (mem' := (mk x y)) 1 rfl ?_
    refine mS_ic1 rfl (fun _ => ?_) (fun _ => ?_)
    · refine mS_steps (pc' := 23) (ls' := [.ref 279, .int p1, .int p2]) (st' := [.int (1 : Int32)]) (mem' := (mk x y)) 2 rfl ?_
      exact mS_reti ⟨_, _, _, _, _, rfl, (by decide)⟩ rfl
    · refine mS_steps (pc' := 23) (ls' := [.ref 279, .int p1, .int p2]) (st' := [.int (0 : Int32)]) (mem' := (mk x y)) 1 rfl ?_
      exact mS_reti ⟨_, _, _, _, _, rfl, (by decide)⟩ rfl
def f_X11_isTight_L21 (a1 : Int32) (a2 : Int32) : Nat → Int32 → mY → Option Int32
  | 0, _, _ => none
  | n + 1, a3, y => (if (8 : Int32) ≤ a3 then (some (1 : Int32)) else (if (f_X11_has a2 a3) = 0 then (f_X11_isTight_L21 a1 a2 n (a3 + (1 : Int32)) y) else ((f_X11_isOne a1 (a2 &&& (((1 : Int32) <<< (a3 &&& 31)) ^^^ (-1 : Int32))) y).bind fun q3 => (if q3 = 0 then (some (0 : Int32)) else (f_X11_isTight_L21 a1 a2 n (a3 + (1 : Int32)) y)))))
def f_X11_isTight (p1 : Int32) (p2 : Int32) (y : mY) : Option Int32 := ((f_X11_bitsOf p2).bind fun q1 => (if q1 < (2 : Int32) then (some (0 : Int32)) else ((f_X11_isOne p1 p2 y).bind fun q2 => (if q2 = 0 then (some (0 : Int32)) else (f_X11_isTight_L21 p1 p2 mF (0 : Int32) y)))))
set_option maxRecDepth 20000 in
set_option maxHeartbeats 2000000 in
theorem f_X11_isTight_L21_snd {fm : Value} {L : Nat} {xs : Nat → Int32} (a1 : Int32) (a2 : Int32) (y : mY) (x : mX) : ∀ (n : Nat) (a3 : Int32), mS fm L xs (fun r : Int32 => (.int r, (mk x y))) pg_X11_isTight 21 [.ref 279, .int a1, .int a2, .int a3] [] (mk x y) (f_X11_isTight_L21 a1 a2 n a3 y) := by
  intro n
  induction n with
  | zero => intro a3; exact mS_none
  | succ n ih =>
    intro a3
    rw [f_X11_isTight_L21]
    refine mS_steps (pc' := 24) (ls' := [.ref 279, .int a1, .int a2, .int a3]) (st' := [.int (8 : Int32), .int a3]) (mem' := (mk x y)) 2 rfl ?_
    refine mS_ic3 rfl (fun _ => ?_) (fun _ => ?_)
    · refine mS_steps (pc' := 59) (ls' := [.ref 279, .int a1, .int a2, .int a3]) (st' := [.int (1 : Int32)]) (mem' := (mk x y)) 1 rfl ?_
      exact mS_reti ⟨_, _, _, _, _, rfl, (by decide)⟩ rfl
    · refine mS_steps (pc' := 29) (ls' := [.ref 279, .int a1, .int a2, .int a3]) (st' := [.int a3, .int a2]) (mem' := (mk x y)) 2 rfl ?_
      refine mS_call (q := (f_X11_has a2 a3)) 87 2 [.int a2, .int a3] [] rfl rfl rfl ⟨_, _, _, rfl, rfl⟩ (Nat.le_of_ble_eq_true rfl) (Nat.le_of_ble_eq_true rfl) rfl (f_X11_has_snd a2 a3 (mk x y)) ?_
      refine mS_steps (pc' := 32) (ls' := [.ref 279, .int a1, .int a2, .int a3]) (st' := [.int (f_X11_has a2 a3)]) (mem' := (mk x y)) 0 rfl ?_
      refine mS_if0 rfl (fun _ => ?_) (fun _ => ?_)
      · refine mS_steps (pc' := 21) (ls' := [.ref 279, .int a1, .int a2, .int (a3 + (1 : Int32))]) (st' := []) (mem' := (mk x y)) 2 rfl ?_
        exact ih (a3 + (1 : Int32))
      · refine mS_steps (pc' := 44) (ls' := [.ref 279, .int a1, .int a2, .int a3]) (st' := [.int (a2 &&& (((1 : Int32) <<< (a3 &&& 31)) ^^^ (-1 : Int32))), .int a1, .ref 279]) (mem' := (mk x y)) 9 rfl ?_
        refine mS_bind (fun q3 hq3 => mS_call 147 3 [.ref 279, .int a1, .int (a2 &&& (((1 : Int32) <<< (a3 &&& 31)) ^^^ (-1 : Int32)))] [] rfl rfl rfl ⟨_, _, _, rfl, rfl⟩ (Nat.le_of_ble_eq_true rfl) (Nat.le_of_ble_eq_true rfl) hq3 (f_X11_isOne_snd a1 (a2 &&& (((1 : Int32) <<< (a3 &&& 31)) ^^^ (-1 : Int32))) y x) ?_)
        refine mS_steps (pc' := 47) (ls' := [.ref 279, .int a1, .int a2, .int a3]) (st' := [.int q3]) (mem' := (mk x y)) 0 rfl ?_
        refine mS_if1 rfl (fun _ => ?_) (fun _ => ?_)
        · refine mS_steps (pc' := 51) (ls' := [.ref 279, .int a1, .int a2, .int a3]) (st' := [.int (0 : Int32)]) (mem' := (mk x y)) 1 rfl ?_
          exact mS_reti ⟨_, _, _, _, _, rfl, (by decide)⟩ rfl
        · refine mS_steps (pc' := 21) (ls' := [.ref 279, .int a1, .int a2, .int (a3 + (1 : Int32))]) (st' := []) (mem' := (mk x y)) 2 rfl ?_
          exact ih (a3 + (1 : Int32))
set_option maxRecDepth 20000 in
set_option maxHeartbeats 2000000 in
theorem f_X11_isTight_snd {fm : Value} {L : Nat} {xs : Nat → Int32} (p1 : Int32) (p2 : Int32) (y : mY) (x : mX) : mS fm L xs (fun r : Int32 => (.int r, (mk x y))) pg_X11_isTight 0 (m_entry [.ref 279, .int p1, .int p2] 4) [] (mk x y) ((f_X11_isTight p1 p2 y)) := by
  unfold f_X11_isTight
  refine mS_steps (pc' := 0) (ls' := [.ref 279, .int p1, .int p2, mU]) (st' := []) (mem' := (mk x y)) 0 rfl ?_
  refine mS_steps (pc' := 1) (ls' := [.ref 279, .int p1, .int p2, mU]) (st' := [.int p2]) (mem' := (mk x y)) 1 rfl ?_
  refine mS_bind (fun q1 hq1 => mS_call 144 1 [.int p2] [] rfl rfl rfl ⟨_, _, _, rfl, rfl⟩ (Nat.le_of_ble_eq_true rfl) (Nat.le_of_ble_eq_true rfl) hq1 (f_X11_bitsOf_snd p2 (mk x y)) ?_)
  refine mS_steps (pc' := 5) (ls' := [.ref 279, .int p1, .int p2, mU]) (st' := [.int (2 : Int32), .int q1]) (mem' := (mk x y)) 1 rfl ?_
  refine mS_ic2 rfl (fun _ => ?_) (fun _ => ?_)
  · refine mS_steps (pc' := 18) (ls' := [.ref 279, .int p1, .int p2, mU]) (st' := [.int (0 : Int32)]) (mem' := (mk x y)) 1 rfl ?_
    exact mS_reti ⟨_, _, _, _, _, rfl, (by decide)⟩ rfl
  · refine mS_steps (pc' := 11) (ls' := [.ref 279, .int p1, .int p2, mU]) (st' := [.int p2, .int p1, .ref 279]) (mem' := (mk x y)) 3 rfl ?_
    refine mS_bind (fun q2 hq2 => mS_call 147 3 [.ref 279, .int p1, .int p2] [] rfl rfl rfl ⟨_, _, _, rfl, rfl⟩ (Nat.le_of_ble_eq_true rfl) (Nat.le_of_ble_eq_true rfl) hq2 (f_X11_isOne_snd p1 p2 y x) ?_)
    refine mS_steps (pc' := 14) (ls' := [.ref 279, .int p1, .int p2, mU]) (st' := [.int q2]) (mem' := (mk x y)) 0 rfl ?_
    refine mS_if1 rfl (fun _ => ?_) (fun _ => ?_)
    · refine mS_steps (pc' := 18) (ls' := [.ref 279, .int p1, .int p2, mU]) (st' := [.int (0 : Int32)]) (mem' := (mk x y)) 1 rfl ?_
      exact mS_reti ⟨_, _, _, _, _, rfl, (by decide)⟩ rfl
    · refine mS_steps (pc' := 21) (ls' := [.ref 279, .int p1, .int p2, .int (0 : Int32)]) (st' := []) (mem' := (mk x y)) 2 rfl ?_
      refine f_X11_isTight_L21_snd p1 p2 y x mF (0 : Int32)
def f_X11_laysBlocks_L2 (a1 : Int32) (a2 : Int32) : Nat → Int32 → mY → (mY → Option mY) → Option mY
  | 0, _, _, _ => none
  | n + 1, a3, y, k43 => (if (256 : Int32) ≤ a3 then (k43 y) else (if (a3 &&& (a2 ^^^ (-1 : Int32))) = 0 then ((f_X11_isTight a1 a3 y).bind fun q1 => (if q1 = 0 then (if m_in a3 256 = true then (m_let (m_ys y 294 a3.toNatClampNeg (vp_nar .boolean (0 : Int32))) fun y2 => (f_X11_laysBlocks_L2 a1 a2 n (a3 + (1 : Int32)) y2 k43)) else none) else (if m_in a3 256 = true then (m_let (m_ys y 294 a3.toNatClampNeg (vp_nar .boolean (1 : Int32))) fun y3 => (f_X11_laysBlocks_L2 a1 a2 n (a3 + (1 : Int32)) y3 k43)) else none))) else (if m_in a3 256 = true then (m_let (m_ys y 294 a3.toNatClampNeg (vp_nar .boolean (0 : Int32))) fun y4 => (f_X11_laysBlocks_L2 a1 a2 n (a3 + (1 : Int32)) y4 k43)) else none)))
def f_X11_laysBlocks_L70 (a3 : Int32) : Nat → Int32 → Int32 → mY → (Int32 → Option mY) → Option mY
  | 0, _, _, _, _ => none
  | n + 1, a4, a5, y, k111 => (if (256 : Int32) ≤ a5 then (k111 a4) else (if a4 = 0 then (k111 a4) else (if (a3 &&& (a5 ^^^ (-1 : Int32))) = 0 then (if m_in a5 256 = true then (if (y.1 294 a5.toNatClampNeg) = 0 then (f_X11_laysBlocks_L70 a3 n a4 (a5 + (1 : Int32)) y k111) else (f_X11_laysBlocks_L70 a3 n (0 : Int32) (a5 + (1 : Int32)) y k111)) else none) else (f_X11_laysBlocks_L70 a3 n a4 (a5 + (1 : Int32)) y k111))))
def f_X11_laysBlocks_L50 : Nat → Int32 → mY → Option mY
  | 0, _, _ => none
  | n + 1, a3, y => (if (256 : Int32) ≤ a3 then (some y) else (if m_in a3 256 = true then (f_X11_laysBlocks_L70 a3 mF (y.1 294 a3.toNatClampNeg) (a3 + (1 : Int32)) y (fun v7 => (if v7 = 0 then (f_X11_laysBlocks_L50 n (a3 + (1 : Int32)) y) else (if m_in (y.1 279 34) 28 = true then (m_let (m_ys y 295 (y.1 279 34).toNatClampNeg a3) fun y8 => (m_let (m_ys y8 279 34 ((y8.1 279 34) + (1 : Int32))) fun y9 => (f_X11_laysBlocks_L50 n (a3 + (1 : Int32)) y9))) else none)))) else none))
def f_X11_laysBlocks (p1 : Int32) (p2 : Int32) (y : mY) : Option mY := (f_X11_laysBlocks_L2 p1 p2 mF (0 : Int32) y (fun y5 => (m_let (m_ys y5 279 34 (0 : Int32)) fun y6 => (f_X11_laysBlocks_L50 mF (0 : Int32) y6))))
set_option maxRecDepth 20000 in
set_option maxHeartbeats 2000000 in
theorem f_X11_laysBlocks_L2_snd {fm : Value} {L : Nat} {xs : Nat → Int32} (a1 : Int32) (a2 : Int32) (x : mX) (k43 : mY → Option mY) (hk43 : ∀ (z0 : mY), mS fm L xs (fun r : mY => (mU, mk x r)) pg_X11_laysBlocks 43 [.ref 279, mU, mU, mU, mU, mU] [] (mk x z0) (k43 z0)) : ∀ (n : Nat) (a3 : Int32) (y : mY), mS fm L xs (fun r : mY => (mU, mk x r)) pg_X11_laysBlocks 2 [.ref 279, .int a1, .int a2, .int a3, mU, mU] [] (mk x y) (f_X11_laysBlocks_L2 a1 a2 n a3 y k43) := by
  intro n
  induction n with
  | zero => intro a3 y; exact mS_none
  | succ n ih =>
    intro a3 y
    rw [f_X11_laysBlocks_L2]
    refine mS_steps (pc' := 6) (ls' := [.ref 279, .int a1, .int a2, .int a3, mU, mU]) (st' := [.int (256 : Int32), .int a3]) (mem' := (mk x y)) 2 rfl ?_
    refine mS_ic3 rfl (fun _ => ?_) (fun _ => ?_)
    · refine mS_forget [.ref 279, mU, mU, mU, mU, mU] ⟨Or.inr rfl, Or.inl rfl, Or.inl rfl, Or.inl rfl, Or.inl rfl, Or.inl rfl, trivial⟩ ?_
      exact hk43 y
    · refine mS_steps (pc' := 19) (ls' := [.ref 279, .int a1, .int a2, .int a3, mU, mU]) (st' := [.int (a3 &&& (a2 ^^^ (-1 : Int32))), .int a3, .ref 294]) (mem' := (mk x y)) 8 rfl ?_
      refine mS_if1 rfl (fun _ => ?_) (fun _ => ?_)
      · refine mS_steps (pc' := 25) (ls' := [.ref 279, .int a1, .int a2, .int a3, mU, mU]) (st' := [.int a3, .int a1, .ref 279, .int a3, .ref 294]) (mem' := (mk x y)) 3 rfl ?_
        refine mS_bind (fun q1 hq1 => mS_call 148 3 [.ref 279, .int a1, .int a3] [.int a3, .ref 294] rfl rfl rfl ⟨_, _, _, rfl, rfl⟩ (Nat.le_of_ble_eq_true rfl) (Nat.le_of_ble_eq_true rfl) hq1 (f_X11_isTight_snd a1 a3 y x) ?_)
        refine mS_steps (pc' := 28) (ls' := [.ref 279, .int a1, .int a2, .int a3, mU, mU]) (st' := [.int q1, .int a3, .ref 294]) (mem' := (mk x y)) 0 rfl ?_
        refine mS_if0 rfl (fun _ => ?_) (fun _ => ?_)
        · refine mS_steps (pc' := 36) (ls' := [.ref 279, .int a1, .int a2, .int a3, mU, mU]) (st' := [.int (0 : Int32), .int a3, .ref 294]) (mem' := (mk x y)) 1 rfl ?_
          refine mS_ast3y (n := 256) rfl rfl (by decide) (fun _ => ?_)
          refine mS_lety (fun y2 => ?_)
          refine mS_steps (pc' := 2) (ls' := [.ref 279, .int a1, .int a2, .int (a3 + (1 : Int32)), mU, mU]) (st' := []) (mem' := (mk x y2)) 2 rfl ?_
          exact ih (a3 + (1 : Int32)) y2
        · refine mS_steps (pc' := 36) (ls' := [.ref 279, .int a1, .int a2, .int a3, mU, mU]) (st' := [.int (1 : Int32), .int a3, .ref 294]) (mem' := (mk x y)) 2 rfl ?_
          refine mS_ast3y (n := 256) rfl rfl (by decide) (fun _ => ?_)
          refine mS_lety (fun y3 => ?_)
          refine mS_steps (pc' := 2) (ls' := [.ref 279, .int a1, .int a2, .int (a3 + (1 : Int32)), mU, mU]) (st' := []) (mem' := (mk x y3)) 2 rfl ?_
          exact ih (a3 + (1 : Int32)) y3
      · refine mS_steps (pc' := 36) (ls' := [.ref 279, .int a1, .int a2, .int a3, mU, mU]) (st' := [.int (0 : Int32), .int a3, .ref 294]) (mem' := (mk x y)) 1 rfl ?_
        refine mS_ast3y (n := 256) rfl rfl (by decide) (fun _ => ?_)
        refine mS_lety (fun y4 => ?_)
        refine mS_steps (pc' := 2) (ls' := [.ref 279, .int a1, .int a2, .int (a3 + (1 : Int32)), mU, mU]) (st' := []) (mem' := (mk x y4)) 2 rfl ?_
        exact ih (a3 + (1 : Int32)) y4
set_option maxRecDepth 20000 in
set_option maxHeartbeats 2000000 in
theorem f_X11_laysBlocks_L70_snd {fm : Value} {L : Nat} {xs : Nat → Int32} (a3 : Int32) (y : mY) (x : mX) (k111 : Int32 → Option mY) (hk111 : ∀ (b4 : Int32), mS fm L xs (fun r : mY => (mU, mk x r)) pg_X11_laysBlocks 111 [.ref 279, mU, mU, .int a3, .int b4, mU] [] (mk x y) (k111 b4)) : ∀ (n : Nat) (a4 : Int32) (a5 : Int32), mS fm L xs (fun r : mY => (mU, mk x r)) pg_X11_laysBlocks 70 [.ref 279, mU, mU, .int a3, .int a4, .int a5] [] (mk x y) (f_X11_laysBlocks_L70 a3 n a4 a5 y k111) := by
  intro n
  induction n with
  | zero => intro a4 a5; exact mS_none
  | succ n ih =>
    intro a4 a5
    rw [f_X11_laysBlocks_L70]
    refine mS_steps (pc' := 75) (ls' := [.ref 279, mU, mU, .int a3, .int a4, .int a5]) (st' := [.int (256 : Int32), .int a5]) (mem' := (mk x y)) 2 rfl ?_
    refine mS_ic3 rfl (fun _ => ?_) (fun _ => ?_)
    · refine mS_forget [.ref 279, mU, mU, .int a3, .int a4, mU] ⟨Or.inr rfl, Or.inl rfl, Or.inl rfl, Or.inr rfl, Or.inr rfl, Or.inl rfl, trivial⟩ ?_
      exact hk111 a4
    · refine mS_steps (pc' := 80) (ls' := [.ref 279, mU, mU, .int a3, .int a4, .int a5]) (st' := [.int a4]) (mem' := (mk x y)) 1 rfl ?_
      refine mS_if0 rfl (fun _ => ?_) (fun _ => ?_)
      · refine mS_forget [.ref 279, mU, mU, .int a3, .int a4, mU] ⟨Or.inr rfl, Or.inl rfl, Or.inl rfl, Or.inr rfl, Or.inr rfl, Or.inl rfl, trivial⟩ ?_
        exact hk111 a4
      · refine mS_steps (pc' := 89) (ls' := [.ref 279, mU, mU, .int a3, .int a4, .int a5]) (st' := [.int (a3 &&& (a5 ^^^ (-1 : Int32)))]) (mem' := (mk x y)) 5 rfl ?_
        refine mS_if1 rfl (fun _ => ?_) (fun _ => ?_)
        · refine mS_steps (pc' := 98) (ls' := [.ref 279, mU, mU, .int a3, .int a4, .int a5]) (st' := [.int a5, .ref 294]) (mem' := (mk x y)) 3 rfl ?_
          refine mS_ald (b := 3) (n := 256) (z := (y.1 294 a5.toNatClampNeg)) rfl (by decide) rfl (by decide) rfl (fun _ => ?_)
          refine mS_if0 rfl (fun _ => ?_) (fun _ => ?_)
          · refine mS_steps (pc' := 70) (ls' := [.ref 279, mU, mU, .int a3, .int a4, .int (a5 + (1 : Int32))]) (st' := []) (mem' := (mk x y)) 2 rfl ?_
            exact ih a4 (a5 + (1 : Int32))
          · refine mS_steps (pc' := 70) (ls' := [.ref 279, mU, mU, .int a3, .int (0 : Int32), .int (a5 + (1 : Int32))]) (st' := []) (mem' := (mk x y)) 4 rfl ?_
            exact ih (0 : Int32) (a5 + (1 : Int32))
        · refine mS_steps (pc' := 70) (ls' := [.ref 279, mU, mU, .int a3, .int a4, .int (a5 + (1 : Int32))]) (st' := []) (mem' := (mk x y)) 2 rfl ?_
          exact ih a4 (a5 + (1 : Int32))
set_option maxRecDepth 20000 in
set_option maxHeartbeats 2000000 in
theorem f_X11_laysBlocks_L50_snd {fm : Value} {L : Nat} {xs : Nat → Int32} (x : mX) : ∀ (n : Nat) (a3 : Int32) (y : mY), mS fm L xs (fun r : mY => (mU, mk x r)) pg_X11_laysBlocks 50 [.ref 279, mU, mU, .int a3, mU, mU] [] (mk x y) (f_X11_laysBlocks_L50 n a3 y) := by
  intro n
  induction n with
  | zero => intro a3 y; exact mS_none
  | succ n ih =>
    intro a3 y
    rw [f_X11_laysBlocks_L50]
    refine mS_steps (pc' := 54) (ls' := [.ref 279, mU, mU, .int a3, mU, mU]) (st' := [.int (256 : Int32), .int a3]) (mem' := (mk x y)) 2 rfl ?_
    refine mS_ic3 rfl (fun _ => ?_) (fun _ => ?_)
    · exact mS_retv ⟨_, _, _, _, _, rfl⟩ rfl
    · refine mS_steps (pc' := 62) (ls' := [.ref 279, mU, mU, .int a3, mU, mU]) (st' := [.int a3, .ref 294]) (mem' := (mk x y)) 3 rfl ?_
      refine mS_ald (b := 3) (n := 256) (z := (y.1 294 a3.toNatClampNeg)) rfl (by decide) rfl (by decide) rfl (fun _ => ?_)
      refine mS_steps (pc' := 70) (ls' := [.ref 279, mU, mU, .int a3, .int (y.1 294 a3.toNatClampNeg), .int (a3 + (1 : Int32))]) (st' := []) (mem' := (mk x y)) 5 rfl ?_
      refine f_X11_laysBlocks_L70_snd a3 y x _ ?_ mF (y.1 294 a3.toNatClampNeg) (a3 + (1 : Int32))
      · intro v7
        refine mS_steps (pc' := 113) (ls' := [.ref 279, mU, mU, .int a3, .int v7, mU]) (st' := [.int v7]) (mem' := (mk x y)) 1 rfl ?_
        refine mS_if1 rfl (fun _ => ?_) (fun _ => ?_)
        · refine mS_steps (pc' := 50) (ls' := [.ref 279, mU, mU, .int (a3 + (1 : Int32)), .int v7, mU]) (st' := []) (mem' := (mk x y)) 3 rfl ?_
          refine mS_forget [.ref 279, mU, mU, .int (a3 + (1 : Int32)), mU, mU] ⟨Or.inr rfl, Or.inl rfl, Or.inl rfl, Or.inr rfl, Or.inl rfl, Or.inl rfl, trivial⟩ ?_
          exact ih (a3 + (1 : Int32)) y
        · refine mS_steps (pc' := 128) (ls' := [.ref 279, mU, mU, .int a3, .int v7, mU]) (st' := [.int a3, .int (y.1 279 34), .ref 295]) (mem' := (mk x y)) 5 rfl ?_
          refine mS_ast0y (n := 28) rfl rfl (by decide) (fun _ => ?_)
          refine mS_lety (fun y8 => ?_)
          refine mS_steps (pc' := 136) (ls' := [.ref 279, mU, mU, .int a3, .int v7, mU]) (st' := [.int ((y8.1 279 34) + (1 : Int32)), .ref 279]) (mem' := (mk x y8)) 5 rfl ?_
          refine mS_puty rfl rfl (by decide) rfl ?_
          refine mS_lety (fun y9 => ?_)
          refine mS_steps (pc' := 50) (ls' := [.ref 279, mU, mU, .int (a3 + (1 : Int32)), .int v7, mU]) (st' := []) (mem' := (mk x y9)) 2 rfl ?_
          refine mS_forget [.ref 279, mU, mU, .int (a3 + (1 : Int32)), mU, mU] ⟨Or.inr rfl, Or.inl rfl, Or.inl rfl, Or.inr rfl, Or.inl rfl, Or.inl rfl, trivial⟩ ?_
          exact ih (a3 + (1 : Int32)) y9
set_option maxRecDepth 20000 in
set_option maxHeartbeats 2000000 in
theorem f_X11_laysBlocks_snd {fm : Value} {L : Nat} {xs : Nat → Int32} (p1 : Int32) (p2 : Int32) (y : mY) (x : mX) : mS fm L xs (fun r : mY => (mU, mk x r)) pg_X11_laysBlocks 0 (m_entry [.ref 279, .int p1, .int p2] 6) [] (mk x y) ((f_X11_laysBlocks p1 p2 y)) := by
  unfold f_X11_laysBlocks
  refine mS_steps (pc' := 0) (ls' := [.ref 279, .int p1, .int p2, mU, mU, mU]) (st' := []) (mem' := (mk x y)) 0 rfl ?_
  refine mS_steps (pc' := 2) (ls' := [.ref 279, .int p1, .int p2, .int (0 : Int32), mU, mU]) (st' := []) (mem' := (mk x y)) 2 rfl ?_
  refine f_X11_laysBlocks_L2_snd p1 p2 x _ ?_ mF (0 : Int32) y
  · intro y5
    refine mS_steps (pc' := 45) (ls' := [.ref 279, mU, mU, mU, mU, mU]) (st' := [.int (0 : Int32), .ref 279]) (mem' := (mk x y5)) 2 rfl ?_
    refine mS_puty rfl rfl (by decide) rfl ?_
    refine mS_lety (fun y6 => ?_)
    refine mS_steps (pc' := 50) (ls' := [.ref 279, mU, mU, .int (0 : Int32), mU, mU]) (st' := []) (mem' := (mk x y6)) 2 rfl ?_
    refine f_X11_laysBlocks_L50_snd x mF (0 : Int32) y6
def f_X11_knowsHops_L58 (a1 : Int32) (a2 : Int32) (a3 : Int32) (a4 : Int32) : Nat → Int32 → mY → Option mY
  | 0, _, _ => none
  | n + 1, a5, y => (if a3 ≤ a5 then (some y) else (if m_in (((8 : Int32) * a1) + a5) 512 = true then (if m_in ((8 : Int32) + a2) 24 = true then (if (f_X11_has (y.1 293 ((8 : Int32) + a2).toNatClampNeg) (y.1 299 (((8 : Int32) * a1) + a5).toNatClampNeg)) = 0 then (f_X11_knowsHops_L58 a1 a2 a3 a4 n (a5 + (1 : Int32)) y) else (if m_in a1 64 = true then (m_jn (fun y9 => (if a4 = 0 then (if m_in a1 64 = true then (m_let (m_ys y9 301 a1.toNatClampNeg (y.1 299 (((8 : Int32) * a1) + a5).toNatClampNeg)) fun y10 => (f_X11_knowsHops_L58 a1 a2 a3 a4 n (a5 + (1 : Int32)) y10)) else none) else (f_X11_knowsHops_L58 a1 a2 a3 a4 n (a5 + (1 : Int32)) y9))) (fun j8 => if 0 ≤ (y.1 300 a1.toNatClampNeg) then (j8 y) else (if a4 = 0 then (if m_in a1 64 = true then (m_let (m_ys y 300 a1.toNatClampNeg (y.1 299 (((8 : Int32) * a1) + a5).toNatClampNeg)) fun y11 => (j8 y11)) else none) else (if a3 = (2 : Int32) then (if m_in a1 64 = true then (m_let (m_ys y 300 a1.toNatClampNeg (y.1 299 (((8 : Int32) * a1) + a5).toNatClampNeg)) fun y12 => (j8 y12)) else none) else (if m_in a1 64 = true then (if (y.1 299 (((8 : Int32) * a1) + a5).toNatClampNeg) = (y.1 297 a1.toNatClampNeg) then (j8 y) else (if m_in a1 64 = true then (m_let (m_ys y 300 a1.toNatClampNeg (y.1 299 (((8 : Int32) * a1) + a5).toNatClampNeg)) fun y13 => (j8 y13)) else none)) else none))))) else none)) else none) else none))
def f_X11_knowsHops (p1 : Int32) (p2 : Int32) (y : mY) : Option mY := (if m_in p1 64 = true then ((f_X11_bitsOf (y.1 296 p1.toNatClampNeg)).bind fun q1 => (if m_in p1 64 = true then (m_jn (fun w3 => (if m_in p1 64 = true then (m_let (m_ys y 300 p1.toNatClampNeg (-1 : Int32)) fun y4 => (m_jn (fun w6 => (if m_in p1 64 = true then (m_let (m_ys y4 301 p1.toNatClampNeg w6) fun y7 => (f_X11_knowsHops_L58 p1 p2 q1 w3 mF (0 : Int32) y7)) else none)) (fun j5 => if w3 = 0 then (j5 (-1 : Int32)) else (if m_in p1 64 = true then (j5 (y4.1 297 p1.toNatClampNeg)) else none)))) else none)) (fun j2 => if p2 = (y.1 298 p1.toNatClampNeg) then (j2 (1 : Int32)) else (j2 (0 : Int32)))) else none)) else none)
set_option maxRecDepth 20000 in
set_option maxHeartbeats 2000000 in
theorem f_X11_knowsHops_L58_snd {fm : Value} {L : Nat} {xs : Nat → Int32} (a1 : Int32) (a2 : Int32) (a3 : Int32) (a4 : Int32) (x : mX) : ∀ (n : Nat) (a5 : Int32) (y : mY), mS fm L xs (fun r : mY => (mU, mk x r)) pg_X11_knowsHops 58 [.ref 279, .int a1, .int a2, .int a3, .int a4, .int a5, mU] [] (mk x y) (f_X11_knowsHops_L58 a1 a2 a3 a4 n a5 y) := by
  intro n
  induction n with
  | zero => intro a5 y; exact mS_none
  | succ n ih =>
    intro a5 y
    rw [f_X11_knowsHops_L58]
    refine mS_steps (pc' := 61) (ls' := [.ref 279, .int a1, .int a2, .int a3, .int a4, .int a5, mU]) (st' := [.int a3, .int a5]) (mem' := (mk x y)) 2 rfl ?_
    refine mS_ic3 rfl (fun _ => ?_) (fun _ => ?_)
    · exact mS_retv ⟨_, _, _, _, _, rfl⟩ rfl
    · refine mS_steps (pc' := 75) (ls' := [.ref 279, .int a1, .int a2, .int a3, .int a4, .int a5, mU]) (st' := [.int (((8 : Int32) * a1) + a5), .ref 299]) (mem' := (mk x y)) 7 rfl ?_
      refine mS_ald (b := 0) (n := 512) (z := (y.1 299 (((8 : Int32) * a1) + a5).toNatClampNeg)) rfl (by decide) rfl (by decide) rfl (fun _ => ?_)
      refine mS_steps (pc' := 86) (ls' := [.ref 279, .int a1, .int a2, .int a3, .int a4, .int a5, .int (y.1 299 (((8 : Int32) * a1) + a5).toNatClampNeg)]) (st' := [.int ((8 : Int32) + a2), .ref 293]) (mem' := (mk x y)) 6 rfl ?_
      refine mS_ald (b := 0) (n := 24) (z := (y.1 293 ((8 : Int32) + a2).toNatClampNeg)) rfl (by decide) rfl (by decide) rfl (fun _ => ?_)
      refine mS_steps (pc' := 89) (ls' := [.ref 279, .int a1, .int a2, .int a3, .int a4, .int a5, .int (y.1 299 (((8 : Int32) * a1) + a5).toNatClampNeg)]) (st' := [.int (y.1 299 (((8 : Int32) * a1) + a5).toNatClampNeg), .int (y.1 293 ((8 : Int32) + a2).toNatClampNeg)]) (mem' := (mk x y)) 1 rfl ?_
      refine mS_call (q := (f_X11_has (y.1 293 ((8 : Int32) + a2).toNatClampNeg) (y.1 299 (((8 : Int32) * a1) + a5).toNatClampNeg))) 87 2 [.int (y.1 293 ((8 : Int32) + a2).toNatClampNeg), .int (y.1 299 (((8 : Int32) * a1) + a5).toNatClampNeg)] [] rfl rfl rfl ⟨_, _, _, rfl, rfl⟩ (Nat.le_of_ble_eq_true rfl) (Nat.le_of_ble_eq_true rfl) rfl (f_X11_has_snd (y.1 293 ((8 : Int32) + a2).toNatClampNeg) (y.1 299 (((8 : Int32) * a1) + a5).toNatClampNeg) (mk x y)) ?_
      refine mS_steps (pc' := 92) (ls' := [.ref 279, .int a1, .int a2, .int a3, .int a4, .int a5, .int (y.1 299 (((8 : Int32) * a1) + a5).toNatClampNeg)]) (st' := [.int (f_X11_has (y.1 293 ((8 : Int32) + a2).toNatClampNeg) (y.1 299 (((8 : Int32) * a1) + a5).toNatClampNeg))]) (mem' := (mk x y)) 0 rfl ?_
      refine mS_if1 rfl (fun _ => ?_) (fun _ => ?_)
      · refine mS_steps (pc' := 58) (ls' := [.ref 279, .int a1, .int a2, .int a3, .int a4, .int (a5 + (1 : Int32)), .int (y.1 299 (((8 : Int32) * a1) + a5).toNatClampNeg)]) (st' := []) (mem' := (mk x y)) 3 rfl ?_
        refine mS_forget [.ref 279, .int a1, .int a2, .int a3, .int a4, .int (a5 + (1 : Int32)), mU] ⟨Or.inr rfl, Or.inr rfl, Or.inr rfl, Or.inr rfl, Or.inr rfl, Or.inr rfl, Or.inl rfl, trivial⟩ ?_
        exact ih (a5 + (1 : Int32)) y
      · refine mS_steps (pc' := 103) (ls' := [.ref 279, .int a1, .int a2, .int a3, .int a4, .int a5, .int (y.1 299 (((8 : Int32) * a1) + a5).toNatClampNeg)]) (st' := [.int a1, .ref 300]) (mem' := (mk x y)) 3 rfl ?_
        refine mS_ald (b := 0) (n := 64) (z := (y.1 300 a1.toNatClampNeg)) rfl (by decide) rfl (by decide) rfl (fun _ => ?_)
        refine mS_jn (fun j => ∀ z : mY, mS fm L xs (fun r : mY => (mU, mk x r)) pg_X11_knowsHops 136 [.ref 279, .int a1, .int a2, .int a3, .int a4, .int a5, .int (y.1 299 (((8 : Int32) * a1) + a5).toNatClampNeg)] [] (mk x z) (j z)) ?_ ?_
        · intro z
          revert z; intro y9
          refine mS_steps (pc' := 138) (ls' := [.ref 279, .int a1, .int a2, .int a3, .int a4, .int a5, .int (y.1 299 (((8 : Int32) * a1) + a5).toNatClampNeg)]) (st' := [.int a4]) (mem' := (mk x y9)) 1 rfl ?_
          refine mS_if1 rfl (fun _ => ?_) (fun _ => ?_)
          · refine mS_steps (pc' := 148) (ls' := [.ref 279, .int a1, .int a2, .int a3, .int a4, .int a5, .int (y.1 299 (((8 : Int32) * a1) + a5).toNatClampNeg)]) (st' := [.int (y.1 299 (((8 : Int32) * a1) + a5).toNatClampNeg), .int a1, .ref 301]) (mem' := (mk x y9)) 4 rfl ?_
            refine mS_ast0y (n := 64) rfl rfl (by decide) (fun _ => ?_)
            refine mS_lety (fun y10 => ?_)
            refine mS_steps (pc' := 58) (ls' := [.ref 279, .int a1, .int a2, .int a3, .int a4, .int (a5 + (1 : Int32)), .int (y.1 299 (((8 : Int32) * a1) + a5).toNatClampNeg)]) (st' := []) (mem' := (mk x y10)) 2 rfl ?_
            refine mS_forget [.ref 279, .int a1, .int a2, .int a3, .int a4, .int (a5 + (1 : Int32)), mU] ⟨Or.inr rfl, Or.inr rfl, Or.inr rfl, Or.inr rfl, Or.inr rfl, Or.inr rfl, Or.inl rfl, trivial⟩ ?_
            exact ih (a5 + (1 : Int32)) y10
          · refine mS_steps (pc' := 58) (ls' := [.ref 279, .int a1, .int a2, .int a3, .int a4, .int (a5 + (1 : Int32)), .int (y.1 299 (((8 : Int32) * a1) + a5).toNatClampNeg)]) (st' := []) (mem' := (mk x y9)) 2 rfl ?_
            refine mS_forget [.ref 279, .int a1, .int a2, .int a3, .int a4, .int (a5 + (1 : Int32)), mU] ⟨Or.inr rfl, Or.inr rfl, Or.inr rfl, Or.inr rfl, Or.inr rfl, Or.inr rfl, Or.inl rfl, trivial⟩ ?_
            exact ih (a5 + (1 : Int32)) y9
        intro j8 hj8
        refine mS_if3 rfl (fun _ => ?_) (fun _ => ?_)
        · exact hj8 y
        · refine mS_steps (pc' := 109) (ls' := [.ref 279, .int a1, .int a2, .int a3, .int a4, .int a5, .int (y.1 299 (((8 : Int32) * a1) + a5).toNatClampNeg)]) (st' := [.int a4]) (mem' := (mk x y)) 1 rfl ?_
          refine mS_if0 rfl (fun _ => ?_) (fun _ => ?_)
          · refine mS_steps (pc' := 135) (ls' := [.ref 279, .int a1, .int a2, .int a3, .int a4, .int a5, .int (y.1 299 (((8 : Int32) * a1) + a5).toNatClampNeg)]) (st' := [.int (y.1 299 (((8 : Int32) * a1) + a5).toNatClampNeg), .int a1, .ref 300]) (mem' := (mk x y)) 4 rfl ?_
            refine mS_ast0y (n := 64) rfl rfl (by decide) (fun _ => ?_)
            refine mS_lety (fun y11 => ?_)
            exact hj8 y11
          · refine mS_steps (pc' := 114) (ls' := [.ref 279, .int a1, .int a2, .int a3, .int a4, .int a5, .int (y.1 299 (((8 : Int32) * a1) + a5).toNatClampNeg)]) (st' := [.int (2 : Int32), .int a3]) (mem' := (mk x y)) 2 rfl ?_
            refine mS_ic0 rfl (fun _ => ?_) (fun _ => ?_)
            · refine mS_steps (pc' := 135) (ls' := [.ref 279, .int a1, .int a2, .int a3, .int a4, .int a5, .int (y.1 299 (((8 : Int32) * a1) + a5).toNatClampNeg)]) (st' := [.int (y.1 299 (((8 : Int32) * a1) + a5).toNatClampNeg), .int a1, .ref 300]) (mem' := (mk x y)) 4 rfl ?_
              refine mS_ast0y (n := 64) rfl rfl (by decide) (fun _ => ?_)
              refine mS_lety (fun y12 => ?_)
              exact hj8 y12
            · refine mS_steps (pc' := 124) (ls' := [.ref 279, .int a1, .int a2, .int a3, .int a4, .int a5, .int (y.1 299 (((8 : Int32) * a1) + a5).toNatClampNeg)]) (st' := [.int a1, .ref 297, .int (y.1 299 (((8 : Int32) * a1) + a5).toNatClampNeg)]) (mem' := (mk x y)) 4 rfl ?_
              refine mS_ald (b := 0) (n := 64) (z := (y.1 297 a1.toNatClampNeg)) rfl (by decide) rfl (by decide) rfl (fun _ => ?_)
              refine mS_ic0 rfl (fun _ => ?_) (fun _ => ?_)
              · exact hj8 y
              · refine mS_steps (pc' := 135) (ls' := [.ref 279, .int a1, .int a2, .int a3, .int a4, .int a5, .int (y.1 299 (((8 : Int32) * a1) + a5).toNatClampNeg)]) (st' := [.int (y.1 299 (((8 : Int32) * a1) + a5).toNatClampNeg), .int a1, .ref 300]) (mem' := (mk x y)) 4 rfl ?_
                refine mS_ast0y (n := 64) rfl rfl (by decide) (fun _ => ?_)
                refine mS_lety (fun y13 => ?_)
                exact hj8 y13
set_option maxRecDepth 20000 in
set_option maxHeartbeats 2000000 in
theorem f_X11_knowsHops_snd {fm : Value} {L : Nat} {xs : Nat → Int32} (p1 : Int32) (p2 : Int32) (y : mY) (x : mX) : mS fm L xs (fun r : mY => (mU, mk x r)) pg_X11_knowsHops 0 (m_entry [.ref 279, .int p1, .int p2] 7) [] (mk x y) ((f_X11_knowsHops p1 p2 y)) := by
  unfold f_X11_knowsHops
  refine mS_steps (pc' := 0) (ls' := [.ref 279, .int p1, .int p2, mU, mU, mU, mU]) (st' := []) (mem' := (mk x y)) 0 rfl ?_
  refine mS_steps (pc' := 5) (ls' := [.ref 279, .int p1, .int p2, mU, mU, mU, mU]) (st' := [.int p1, .ref 296]) (mem' := (mk x y)) 3 rfl ?_
  refine mS_ald (b := 0) (n := 64) (z := (y.1 296 p1.toNatClampNeg)) rfl (by decide) rfl (by decide) rfl (fun _ => ?_)
  refine mS_bind (fun q1 hq1 => mS_call 144 1 [.int (y.1 296 p1.toNatClampNeg)] [] rfl rfl rfl ⟨_, _, _, rfl, rfl⟩ (Nat.le_of_ble_eq_true rfl) (Nat.le_of_ble_eq_true rfl) hq1 (f_X11_bitsOf_snd (y.1 296 p1.toNatClampNeg) (mk x y)) ?_)
  refine mS_steps (pc' := 16) (ls' := [.ref 279, .int p1, .int p2, .int q1, mU, mU, mU]) (st' := [.int p1, .ref 298, .int p2]) (mem' := (mk x y)) 5 rfl ?_
  refine mS_ald (b := 0) (n := 64) (z := (y.1 298 p1.toNatClampNeg)) rfl (by decide) rfl (by decide) rfl (fun _ => ?_)
  refine mS_jn (fun j => ∀ z : Int32, mS fm L xs (fun r : mY => (mU, mk x r)) pg_X11_knowsHops 25 [.ref 279, .int p1, .int p2, .int q1, mU, mU, mU] [.int z] (mk x y) (j z)) ?_ ?_
  · intro z
    revert z; intro w3
    refine mS_steps (pc' := 33) (ls' := [.ref 279, .int p1, .int p2, .int q1, .int w3, mU, mU]) (st' := [.int (-1 : Int32), .int p1, .ref 300]) (mem' := (mk x y)) 5 rfl ?_
    refine mS_ast0y (n := 64) rfl rfl (by decide) (fun _ => ?_)
    refine mS_lety (fun y4 => ?_)
    refine mS_steps (pc' := 41) (ls' := [.ref 279, .int p1, .int p2, .int q1, .int w3, mU, mU]) (st' := [.int w3, .int p1, .ref 301]) (mem' := (mk x y4)) 4 rfl ?_
    refine mS_jn (fun j => ∀ z : Int32, mS fm L xs (fun r : mY => (mU, mk x r)) pg_X11_knowsHops 54 [.ref 279, .int p1, .int p2, .int q1, .int w3, mU, mU] [.int z, .int p1, .ref 301] (mk x y4) (j z)) ?_ ?_
    · intro z
      revert z; intro w6
      refine mS_ast0y (n := 64) rfl rfl (by decide) (fun _ => ?_)
      refine mS_lety (fun y7 => ?_)
      refine mS_steps (pc' := 58) (ls' := [.ref 279, .int p1, .int p2, .int q1, .int w3, .int (0 : Int32), mU]) (st' := []) (mem' := (mk x y7)) 2 rfl ?_
      refine f_X11_knowsHops_L58_snd p1 p2 q1 w3 x mF (0 : Int32) y7
    intro j5 hj5
    refine mS_if0 rfl (fun _ => ?_) (fun _ => ?_)
    · refine mS_steps (pc' := 54) (ls' := [.ref 279, .int p1, .int p2, .int q1, .int w3, mU, mU]) (st' := [.int (-1 : Int32), .int p1, .ref 301]) (mem' := (mk x y4)) 1 rfl ?_
      exact hj5 (-1 : Int32)
    · refine mS_steps (pc' := 49) (ls' := [.ref 279, .int p1, .int p2, .int q1, .int w3, mU, mU]) (st' := [.int p1, .ref 297, .int p1, .ref 301]) (mem' := (mk x y4)) 3 rfl ?_
      refine mS_ald (b := 0) (n := 64) (z := (y4.1 297 p1.toNatClampNeg)) rfl (by decide) rfl (by decide) rfl (fun _ => ?_)
      refine mS_steps (pc' := 54) (ls' := [.ref 279, .int p1, .int p2, .int q1, .int w3, mU, mU]) (st' := [.int (y4.1 297 p1.toNatClampNeg), .int p1, .ref 301]) (mem' := (mk x y4)) 1 rfl ?_
      exact hj5 (y4.1 297 p1.toNatClampNeg)
  intro j2 hj2
  refine mS_ic1 rfl (fun _ => ?_) (fun _ => ?_)
  · refine mS_steps (pc' := 25) (ls' := [.ref 279, .int p1, .int p2, .int q1, mU, mU, mU]) (st' := [.int (1 : Int32)]) (mem' := (mk x y)) 2 rfl ?_
    exact hj2 (1 : Int32)
  · refine mS_steps (pc' := 25) (ls' := [.ref 279, .int p1, .int p2, .int q1, mU, mU, mU]) (st' := [.int (0 : Int32)]) (mem' := (mk x y)) 1 rfl ?_
    exact hj2 (0 : Int32)
def f_X11_isOrder_L8 (a1 : Int32) (a2 : Int32) : Nat → Int32 → Int32 → mY → (Int32 → Option Int32) → Option Int32
  | 0, _, _, _, _ => none
  | n + 1, a4, a5, y, k36 => (if a2 ≤ a5 then (k36 a4) else (if m_in (a1 + a5) 512 = true then (f_X11_isOrder_L8 a1 a2 n (a4 ||| ((1 : Int32) <<< ((y.1 299 (a1 + a5).toNatClampNeg) &&& 31))) (a5 + (1 : Int32)) y k36) else none))
def f_X11_isOrder_L39 (a1 : Int32) (a2 : Int32) : Nat → Int32 → Int32 → Int32 → mY → Option Int32
  | 0, _, _, _, _ => none
  | n + 1, a3, a4, a5, y => (if (a2 - (1 : Int32)) ≤ a5 then (some (1 : Int32)) else (if m_in ((a1 + a5) - (1 : Int32)) 512 = true then (if m_in (a1 + a5) 512 = true then (if m_in (a1 + a5) 512 = true then (if m_in ((8 : Int32) + (y.1 299 (a1 + a5).toNatClampNeg)) 24 = true then (if ((y.1 293 ((8 : Int32) + (y.1 299 (a1 + a5).toNatClampNeg)).toNatClampNeg) &&& (a3 ||| ((1 : Int32) <<< ((y.1 299 ((a1 + a5) - (1 : Int32)).toNatClampNeg) &&& 31)))) = 0 then (some (0 : Int32)) else (if ((y.1 293 ((8 : Int32) + (y.1 299 (a1 + a5).toNatClampNeg)).toNatClampNeg) &&& (a4 &&& (((1 : Int32) <<< ((y.1 299 (a1 + a5).toNatClampNeg) &&& 31)) ^^^ (-1 : Int32)))) = 0 then (some (0 : Int32)) else (f_X11_isOrder_L39 a1 a2 n (a3 ||| ((1 : Int32) <<< ((y.1 299 ((a1 + a5) - (1 : Int32)).toNatClampNeg) &&& 31))) (a4 &&& (((1 : Int32) <<< ((y.1 299 (a1 + a5).toNatClampNeg) &&& 31)) ^^^ (-1 : Int32))) (a5 + (1 : Int32)) y))) else none) else none) else none) else none))
def f_X11_isOrder (p1 : Int32) (p2 : Int32) (y : mY) : Option Int32 := (f_X11_isOrder_L8 p1 p2 mF (0 : Int32) (1 : Int32) y (fun v1 => (f_X11_isOrder_L39 p1 p2 mF (0 : Int32) v1 (1 : Int32) y)))
set_option maxRecDepth 20000 in
set_option maxHeartbeats 2000000 in
theorem f_X11_isOrder_L8_snd {fm : Value} {L : Nat} {xs : Nat → Int32} (a1 : Int32) (a2 : Int32) (a3 : Int32) (y : mY) (x : mX) (k36 : Int32 → Option Int32) (hk36 : ∀ (b4 : Int32), mS fm L xs (fun r : Int32 => (.int r, (mk x y))) pg_X11_isOrder 36 [.ref 279, .int a1, .int a2, .int a3, .int b4, mU, mU] [] (mk x y) (k36 b4)) : ∀ (n : Nat) (a4 : Int32) (a5 : Int32), mS fm L xs (fun r : Int32 => (.int r, (mk x y))) pg_X11_isOrder 8 [.ref 279, .int a1, .int a2, .int a3, .int a4, .int a5, mU] [] (mk x y) (f_X11_isOrder_L8 a1 a2 n a4 a5 y k36) := by
  intro n
  induction n with
  | zero => intro a4 a5; exact mS_none
  | succ n ih =>
    intro a4 a5
    rw [f_X11_isOrder_L8]
    refine mS_steps (pc' := 11) (ls' := [.ref 279, .int a1, .int a2, .int a3, .int a4, .int a5, mU]) (st' := [.int a2, .int a5]) (mem' := (mk x y)) 2 rfl ?_
    refine mS_ic3 rfl (fun _ => ?_) (fun _ => ?_)
    · refine mS_forget [.ref 279, .int a1, .int a2, .int a3, .int a4, mU, mU] ⟨Or.inr rfl, Or.inr rfl, Or.inr rfl, Or.inr rfl, Or.inr rfl, Or.inl rfl, Or.inl rfl, trivial⟩ ?_
      exact hk36 a4
    · refine mS_steps (pc' := 25) (ls' := [.ref 279, .int a1, .int a2, .int a3, .int a4, .int a5, mU]) (st' := [.int (a1 + a5), .ref 299, .int (1 : Int32), .int a4]) (mem' := (mk x y)) 7 rfl ?_
      refine mS_ald (b := 0) (n := 512) (z := (y.1 299 (a1 + a5).toNatClampNeg)) rfl (by decide) rfl (by decide) rfl (fun _ => ?_)
      refine mS_steps (pc' := 8) (ls' := [.ref 279, .int a1, .int a2, .int a3, .int (a4 ||| ((1 : Int32) <<< ((y.1 299 (a1 + a5).toNatClampNeg) &&& 31))), .int (a5 + (1 : Int32)), mU]) (st' := []) (mem' := (mk x y)) 5 rfl ?_
      exact ih (a4 ||| ((1 : Int32) <<< ((y.1 299 (a1 + a5).toNatClampNeg) &&& 31))) (a5 + (1 : Int32))
set_option maxRecDepth 20000 in
set_option maxHeartbeats 2000000 in
theorem f_X11_isOrder_L39_snd {fm : Value} {L : Nat} {xs : Nat → Int32} (a1 : Int32) (a2 : Int32) (y : mY) (x : mX) : ∀ (n : Nat) (a3 : Int32) (a4 : Int32) (a5 : Int32), mS fm L xs (fun r : Int32 => (.int r, (mk x y))) pg_X11_isOrder 39 [.ref 279, .int a1, .int a2, .int a3, .int a4, .int a5, mU] [] (mk x y) (f_X11_isOrder_L39 a1 a2 n a3 a4 a5 y) := by
  intro n
  induction n with
  | zero => intro a3 a4 a5; exact mS_none
  | succ n ih =>
    intro a3 a4 a5
    rw [f_X11_isOrder_L39]
    refine mS_steps (pc' := 44) (ls' := [.ref 279, .int a1, .int a2, .int a3, .int a4, .int a5, mU]) (st' := [.int (a2 - (1 : Int32)), .int a5]) (mem' := (mk x y)) 4 rfl ?_
    refine mS_ic3 rfl (fun _ => ?_) (fun _ => ?_)
    · refine mS_steps (pc' := 124) (ls' := [.ref 279, .int a1, .int a2, .int a3, .int a4, .int a5, mU]) (st' := [.int (1 : Int32)]) (mem' := (mk x y)) 1 rfl ?_
      exact mS_reti ⟨_, _, _, _, _, rfl, (by decide)⟩ rfl
    · refine mS_steps (pc' := 59) (ls' := [.ref 279, .int a1, .int a2, .int a3, .int a4, .int a5, mU]) (st' := [.int ((a1 + a5) - (1 : Int32)), .ref 299, .int (1 : Int32), .int a3]) (mem' := (mk x y)) 9 rfl ?_
      refine mS_ald (b := 0) (n := 512) (z := (y.1 299 ((a1 + a5) - (1 : Int32)).toNatClampNeg)) rfl (by decide) rfl (by decide) rfl (fun _ => ?_)
      refine mS_steps (pc' := 74) (ls' := [.ref 279, .int a1, .int a2, .int (a3 ||| ((1 : Int32) <<< ((y.1 299 ((a1 + a5) - (1 : Int32)).toNatClampNeg) &&& 31))), .int a4, .int a5, mU]) (st' := [.int (a1 + a5), .ref 299, .int (1 : Int32), .int a4]) (mem' := (mk x y)) 10 rfl ?_
      refine mS_ald (b := 0) (n := 512) (z := (y.1 299 (a1 + a5).toNatClampNeg)) rfl (by decide) rfl (by decide) rfl (fun _ => ?_)
      refine mS_steps (pc' := 95) (ls' := [.ref 279, .int a1, .int a2, .int (a3 ||| ((1 : Int32) <<< ((y.1 299 ((a1 + a5) - (1 : Int32)).toNatClampNeg) &&& 31))), .int (a4 &&& (((1 : Int32) <<< ((y.1 299 (a1 + a5).toNatClampNeg) &&& 31)) ^^^ (-1 : Int32))), .int a5, mU]) (st' := [.int (a1 + a5), .ref 299, .int (8 : Int32), .ref 293]) (mem' := (mk x y)) 13 rfl ?_
      refine mS_ald (b := 0) (n := 512) (z := (y.1 299 (a1 + a5).toNatClampNeg)) rfl (by decide) rfl (by decide) rfl (fun _ => ?_)
      refine mS_steps (pc' := 97) (ls' := [.ref 279, .int a1, .int a2, .int (a3 ||| ((1 : Int32) <<< ((y.1 299 ((a1 + a5) - (1 : Int32)).toNatClampNeg) &&& 31))), .int (a4 &&& (((1 : Int32) <<< ((y.1 299 (a1 + a5).toNatClampNeg) &&& 31)) ^^^ (-1 : Int32))), .int a5, mU]) (st' := [.int ((8 : Int32) + (y.1 299 (a1 + a5).toNatClampNeg)), .ref 293]) (mem' := (mk x y)) 1 rfl ?_
      refine mS_ald (b := 0) (n := 24) (z := (y.1 293 ((8 : Int32) + (y.1 299 (a1 + a5).toNatClampNeg)).toNatClampNeg)) rfl (by decide) rfl (by decide) rfl (fun _ => ?_)
      refine mS_steps (pc' := 104) (ls' := [.ref 279, .int a1, .int a2, .int (a3 ||| ((1 : Int32) <<< ((y.1 299 ((a1 + a5) - (1 : Int32)).toNatClampNeg) &&& 31))), .int (a4 &&& (((1 : Int32) <<< ((y.1 299 (a1 + a5).toNatClampNeg) &&& 31)) ^^^ (-1 : Int32))), .int a5, .int (y.1 293 ((8 : Int32) + (y.1 299 (a1 + a5).toNatClampNeg)).toNatClampNeg)]) (st' := [.int ((y.1 293 ((8 : Int32) + (y.1 299 (a1 + a5).toNatClampNeg)).toNatClampNeg) &&& (a3 ||| ((1 : Int32) <<< ((y.1 299 ((a1 + a5) - (1 : Int32)).toNatClampNeg) &&& 31))))]) (mem' := (mk x y)) 4 rfl ?_
      refine mS_if0 rfl (fun _ => ?_) (fun _ => ?_)
      · refine mS_steps (pc' := 116) (ls' := [.ref 279, .int a1, .int a2, .int (a3 ||| ((1 : Int32) <<< ((y.1 299 ((a1 + a5) - (1 : Int32)).toNatClampNeg) &&& 31))), .int (a4 &&& (((1 : Int32) <<< ((y.1 299 (a1 + a5).toNatClampNeg) &&& 31)) ^^^ (-1 : Int32))), .int a5, .int (y.1 293 ((8 : Int32) + (y.1 299 (a1 + a5).toNatClampNeg)).toNatClampNeg)]) (st' := [.int (0 : Int32)]) (mem' := (mk x y)) 1 rfl ?_
        exact mS_reti ⟨_, _, _, _, _, rfl, (by decide)⟩ rfl
      · refine mS_steps (pc' := 112) (ls' := [.ref 279, .int a1, .int a2, .int (a3 ||| ((1 : Int32) <<< ((y.1 299 ((a1 + a5) - (1 : Int32)).toNatClampNeg) &&& 31))), .int (a4 &&& (((1 : Int32) <<< ((y.1 299 (a1 + a5).toNatClampNeg) &&& 31)) ^^^ (-1 : Int32))), .int a5, .int (y.1 293 ((8 : Int32) + (y.1 299 (a1 + a5).toNatClampNeg)).toNatClampNeg)]) (st' := [.int ((y.1 293 ((8 : Int32) + (y.1 299 (a1 + a5).toNatClampNeg)).toNatClampNeg) &&& (a4 &&& (((1 : Int32) <<< ((y.1 299 (a1 + a5).toNatClampNeg) &&& 31)) ^^^ (-1 : Int32))))]) (mem' := (mk x y)) 3 rfl ?_
        refine mS_if1 rfl (fun _ => ?_) (fun _ => ?_)
        · refine mS_steps (pc' := 116) (ls' := [.ref 279, .int a1, .int a2, .int (a3 ||| ((1 : Int32) <<< ((y.1 299 ((a1 + a5) - (1 : Int32)).toNatClampNeg) &&& 31))), .int (a4 &&& (((1 : Int32) <<< ((y.1 299 (a1 + a5).toNatClampNeg) &&& 31)) ^^^ (-1 : Int32))), .int a5, .int (y.1 293 ((8 : Int32) + (y.1 299 (a1 + a5).toNatClampNeg)).toNatClampNeg)]) (st' := [.int (0 : Int32)]) (mem' := (mk x y)) 1 rfl ?_
          exact mS_reti ⟨_, _, _, _, _, rfl, (by decide)⟩ rfl
        · refine mS_steps (pc' := 39) (ls' := [.ref 279, .int a1, .int a2, .int (a3 ||| ((1 : Int32) <<< ((y.1 299 ((a1 + a5) - (1 : Int32)).toNatClampNeg) &&& 31))), .int (a4 &&& (((1 : Int32) <<< ((y.1 299 (a1 + a5).toNatClampNeg) &&& 31)) ^^^ (-1 : Int32))), .int (a5 + (1 : Int32)), .int (y.1 293 ((8 : Int32) + (y.1 299 (a1 + a5).toNatClampNeg)).toNatClampNeg)]) (st' := []) (mem' := (mk x y)) 2 rfl ?_
          refine mS_forget [.ref 279, .int a1, .int a2, .int (a3 ||| ((1 : Int32) <<< ((y.1 299 ((a1 + a5) - (1 : Int32)).toNatClampNeg) &&& 31))), .int (a4 &&& (((1 : Int32) <<< ((y.1 299 (a1 + a5).toNatClampNeg) &&& 31)) ^^^ (-1 : Int32))), .int (a5 + (1 : Int32)), mU] ⟨Or.inr rfl, Or.inr rfl, Or.inr rfl, Or.inr rfl, Or.inr rfl, Or.inr rfl, Or.inl rfl, trivial⟩ ?_
          exact ih (a3 ||| ((1 : Int32) <<< ((y.1 299 ((a1 + a5) - (1 : Int32)).toNatClampNeg) &&& 31))) (a4 &&& (((1 : Int32) <<< ((y.1 299 (a1 + a5).toNatClampNeg) &&& 31)) ^^^ (-1 : Int32))) (a5 + (1 : Int32))
set_option maxRecDepth 20000 in
set_option maxHeartbeats 2000000 in
theorem f_X11_isOrder_snd {fm : Value} {L : Nat} {xs : Nat → Int32} (p1 : Int32) (p2 : Int32) (y : mY) (x : mX) : mS fm L xs (fun r : Int32 => (.int r, (mk x y))) pg_X11_isOrder 0 (m_entry [.ref 279, .int p1, .int p2] 7) [] (mk x y) ((f_X11_isOrder p1 p2 y)) := by
  unfold f_X11_isOrder
  refine mS_steps (pc' := 0) (ls' := [.ref 279, .int p1, .int p2, mU, mU, mU, mU]) (st' := []) (mem' := (mk x y)) 0 rfl ?_
  refine mS_steps (pc' := 8) (ls' := [.ref 279, .int p1, .int p2, .int (0 : Int32), .int (0 : Int32), .int (1 : Int32), mU]) (st' := []) (mem' := (mk x y)) 6 rfl ?_
  refine f_X11_isOrder_L8_snd p1 p2 (0 : Int32) y x _ ?_ mF (0 : Int32) (1 : Int32)
  · intro v1
    refine mS_steps (pc' := 39) (ls' := [.ref 279, .int p1, .int p2, .int (0 : Int32), .int v1, .int (1 : Int32), mU]) (st' := []) (mem' := (mk x y)) 2 rfl ?_
    refine f_X11_isOrder_L39_snd p1 p2 y x mF (0 : Int32) v1 (1 : Int32)
def f_X11_changes (p1 : Int32) (p2 : Int32) (y : mY) : Option mY := (if m_in p1 512 = true then (if m_in p2 512 = true then (if m_in p1 512 = true then (m_let (m_ys y 299 p1.toNatClampNeg (y.1 299 p2.toNatClampNeg)) fun y1 => (if m_in p2 512 = true then (m_let (m_ys y1 299 p2.toNatClampNeg (y.1 299 p1.toNatClampNeg)) fun y2 => (some y2)) else none)) else none) else none) else none)
set_option maxRecDepth 20000 in
set_option maxHeartbeats 2000000 in
theorem f_X11_changes_snd {fm : Value} {L : Nat} {xs : Nat → Int32} (p1 : Int32) (p2 : Int32) (y : mY) (x : mX) : mS fm L xs (fun r : mY => (mU, mk x r)) pg_X11_changes 0 (m_entry [.ref 279, .int p1, .int p2] 4) [] (mk x y) ((f_X11_changes p1 p2 y)) := by
  unfold f_X11_changes
  refine mS_steps (pc' := 0) (ls' := [.ref 279, .int p1, .int p2, mU]) (st' := []) (mem' := (mk x y)) 0 rfl ?_
  refine mS_steps (pc' := 5) (ls' := [.ref 279, .int p1, .int p2, mU]) (st' := [.int p1, .ref 299]) (mem' := (mk x y)) 3 rfl ?_
  refine mS_ald (b := 0) (n := 512) (z := (y.1 299 p1.toNatClampNeg)) rfl (by decide) rfl (by decide) rfl (fun _ => ?_)
  refine mS_steps (pc' := 17) (ls' := [.ref 279, .int p1, .int p2, .int (y.1 299 p1.toNatClampNeg)]) (st' := [.int p2, .ref 299, .int p1, .ref 299]) (mem' := (mk x y)) 7 rfl ?_
  refine mS_ald (b := 0) (n := 512) (z := (y.1 299 p2.toNatClampNeg)) rfl (by decide) rfl (by decide) rfl (fun _ => ?_)
  refine mS_ast0y (n := 512) rfl rfl (by decide) (fun _ => ?_)
  refine mS_lety (fun y1 => ?_)
  refine mS_steps (pc' := 25) (ls' := [.ref 279, .int p1, .int p2, .int (y.1 299 p1.toNatClampNeg)]) (st' := [.int (y.1 299 p1.toNatClampNeg), .int p2, .ref 299]) (mem' := (mk x y1)) 4 rfl ?_
  refine mS_ast0y (n := 512) rfl rfl (by decide) (fun _ => ?_)
  refine mS_lety (fun y2 => ?_)
  exact mS_retv ⟨_, _, _, _, _, rfl⟩ rfl
def f_X11_nextRow_L4 (a1 : Int32) : Nat → Int32 → mY → (Int32 → Option mY) → Option mY
  | 0, _, _, _ => none
  | n + 1, a3, y, k31 => (if m_in (a1 + a3) 512 = true then (if m_in ((a1 + a3) + (1 : Int32)) 512 = true then (if (y.1 299 (a1 + a3).toNatClampNeg) ≤ (y.1 299 ((a1 + a3) + (1 : Int32)).toNatClampNeg) then (k31 a3) else (f_X11_nextRow_L4 a1 n (a3 + (-1 : Int32)) y k31)) else none) else none)
def f_X11_nextRow_L36 (a1 : Int32) (a3 : Int32) : Nat → Int32 → mY → (Int32 → Option mY) → Option mY
  | 0, _, _, _ => none
  | n + 1, a4, y, k62 => (if m_in (a1 + a4) 512 = true then (if m_in (a1 + a3) 512 = true then (if (y.1 299 (a1 + a3).toNatClampNeg) ≤ (y.1 299 (a1 + a4).toNatClampNeg) then (k62 a4) else (f_X11_nextRow_L36 a1 a3 n (a4 + (-1 : Int32)) y k62)) else none) else none)
def f_X11_nextRow_L83 (a1 : Int32) : Nat → Int32 → Int32 → mY → Option mY
  | 0, _, _, _ => none
  | n + 1, a5, a6, y => (if a6 ≤ a5 then (some y) else ((f_X11_changes (a1 + a5) (a1 + a6) y).bind fun q4 => (f_X11_nextRow_L83 a1 n (a5 + (1 : Int32)) (a6 + (-1 : Int32)) q4)))
def f_X11_nextRow (p1 : Int32) (p2 : Int32) (y : mY) : Option mY := (f_X11_nextRow_L4 p1 mF (p2 - (2 : Int32)) y (fun v1 => (f_X11_nextRow_L36 p1 v1 mF (p2 - (1 : Int32)) y (fun v2 => ((f_X11_changes (p1 + v1) (p1 + v2) y).bind fun q3 => (f_X11_nextRow_L83 p1 mF (v1 + (1 : Int32)) (p2 - (1 : Int32)) q3))))))
set_option maxRecDepth 20000 in
set_option maxHeartbeats 2000000 in
theorem f_X11_nextRow_L4_snd {fm : Value} {L : Nat} {xs : Nat → Int32} (a1 : Int32) (a2 : Int32) (y : mY) (x : mX) (k31 : Int32 → Option mY) (hk31 : ∀ (b3 : Int32), mS fm L xs (fun r : mY => (mU, mk x r)) pg_X11_nextRow 31 [.ref 279, .int a1, .int a2, .int b3, mU, mU, mU] [] (mk x y) (k31 b3)) : ∀ (n : Nat) (a3 : Int32), mS fm L xs (fun r : mY => (mU, mk x r)) pg_X11_nextRow 4 [.ref 279, .int a1, .int a2, .int a3, mU, mU, mU] [] (mk x y) (f_X11_nextRow_L4 a1 n a3 y k31) := by
  intro n
  induction n with
  | zero => intro a3; exact mS_none
  | succ n ih =>
    intro a3
    rw [f_X11_nextRow_L4]
    refine mS_steps (pc' := 11) (ls' := [.ref 279, .int a1, .int a2, .int a3, mU, mU, mU]) (st' := [.int (a1 + a3), .ref 299]) (mem' := (mk x y)) 5 rfl ?_
    refine mS_ald (b := 0) (n := 512) (z := (y.1 299 (a1 + a3).toNatClampNeg)) rfl (by decide) rfl (by decide) rfl (fun _ => ?_)
    refine mS_steps (pc' := 21) (ls' := [.ref 279, .int a1, .int a2, .int a3, mU, mU, mU]) (st' := [.int ((a1 + a3) + (1 : Int32)), .ref 299, .int (y.1 299 (a1 + a3).toNatClampNeg)]) (mem' := (mk x y)) 7 rfl ?_
    refine mS_ald (b := 0) (n := 512) (z := (y.1 299 ((a1 + a3) + (1 : Int32)).toNatClampNeg)) rfl (by decide) rfl (by decide) rfl (fun _ => ?_)
    refine mS_ic5 rfl (fun _ => ?_) (fun _ => ?_)
    · exact hk31 a3
    · refine mS_steps (pc' := 4) (ls' := [.ref 279, .int a1, .int a2, .int (a3 + (-1 : Int32)), mU, mU, mU]) (st' := []) (mem' := (mk x y)) 2 rfl ?_
      exact ih (a3 + (-1 : Int32))
set_option maxRecDepth 20000 in
set_option maxHeartbeats 2000000 in
theorem f_X11_nextRow_L36_snd {fm : Value} {L : Nat} {xs : Nat → Int32} (a1 : Int32) (a2 : Int32) (a3 : Int32) (y : mY) (x : mX) (k62 : Int32 → Option mY) (hk62 : ∀ (b4 : Int32), mS fm L xs (fun r : mY => (mU, mk x r)) pg_X11_nextRow 62 [.ref 279, .int a1, .int a2, .int a3, .int b4, mU, mU] [] (mk x y) (k62 b4)) : ∀ (n : Nat) (a4 : Int32), mS fm L xs (fun r : mY => (mU, mk x r)) pg_X11_nextRow 36 [.ref 279, .int a1, .int a2, .int a3, .int a4, mU, mU] [] (mk x y) (f_X11_nextRow_L36 a1 a3 n a4 y k62) := by
  intro n
  induction n with
  | zero => intro a4; exact mS_none
  | succ n ih =>
    intro a4
    rw [f_X11_nextRow_L36]
    refine mS_steps (pc' := 44) (ls' := [.ref 279, .int a1, .int a2, .int a3, .int a4, mU, mU]) (st' := [.int (a1 + a4), .ref 299]) (mem' := (mk x y)) 5 rfl ?_
    refine mS_ald (b := 0) (n := 512) (z := (y.1 299 (a1 + a4).toNatClampNeg)) rfl (by decide) rfl (by decide) rfl (fun _ => ?_)
    refine mS_steps (pc' := 52) (ls' := [.ref 279, .int a1, .int a2, .int a3, .int a4, mU, mU]) (st' := [.int (a1 + a3), .ref 299, .int (y.1 299 (a1 + a4).toNatClampNeg)]) (mem' := (mk x y)) 5 rfl ?_
    refine mS_ald (b := 0) (n := 512) (z := (y.1 299 (a1 + a3).toNatClampNeg)) rfl (by decide) rfl (by decide) rfl (fun _ => ?_)
    refine mS_ic3 rfl (fun _ => ?_) (fun _ => ?_)
    · exact hk62 a4
    · refine mS_steps (pc' := 36) (ls' := [.ref 279, .int a1, .int a2, .int a3, .int (a4 + (-1 : Int32)), mU, mU]) (st' := []) (mem' := (mk x y)) 2 rfl ?_
      exact ih (a4 + (-1 : Int32))
set_option maxRecDepth 20000 in
set_option maxHeartbeats 2000000 in
theorem f_X11_nextRow_L83_snd {fm : Value} {L : Nat} {xs : Nat → Int32} (a1 : Int32) (x : mX) : ∀ (n : Nat) (a5 : Int32) (a6 : Int32) (y : mY), mS fm L xs (fun r : mY => (mU, mk x r)) pg_X11_nextRow 83 [.ref 279, .int a1, mU, mU, mU, .int a5, .int a6] [] (mk x y) (f_X11_nextRow_L83 a1 n a5 a6 y) := by
  intro n
  induction n with
  | zero => intro a5 a6 y; exact mS_none
  | succ n ih =>
    intro a5 a6 y
    rw [f_X11_nextRow_L83]
    refine mS_steps (pc' := 87) (ls' := [.ref 279, .int a1, mU, mU, mU, .int a5, .int a6]) (st' := [.int a6, .int a5]) (mem' := (mk x y)) 2 rfl ?_
    refine mS_ic3 rfl (fun _ => ?_) (fun _ => ?_)
    · exact mS_retv ⟨_, _, _, _, _, rfl⟩ rfl
    · refine mS_steps (pc' := 99) (ls' := [.ref 279, .int a1, mU, mU, mU, .int a5, .int a6]) (st' := [.int (a1 + a6), .int (a1 + a5), .ref 279]) (mem' := (mk x y)) 7 rfl ?_
      refine mS_bind (fun q4 hq4 => mS_call 152 3 [.ref 279, .int (a1 + a5), .int (a1 + a6)] [] rfl rfl rfl ⟨_, _, _, rfl, rfl⟩ (Nat.le_of_ble_eq_true rfl) (Nat.le_of_ble_eq_true rfl) hq4 (f_X11_changes_snd (a1 + a5) (a1 + a6) y x) ?_)
      refine mS_steps (pc' := 83) (ls' := [.ref 279, .int a1, mU, mU, mU, .int (a5 + (1 : Int32)), .int (a6 + (-1 : Int32))]) (st' := []) (mem' := (mk x q4)) 3 rfl ?_
      exact ih (a5 + (1 : Int32)) (a6 + (-1 : Int32)) q4
set_option maxRecDepth 20000 in
set_option maxHeartbeats 2000000 in
theorem f_X11_nextRow_snd {fm : Value} {L : Nat} {xs : Nat → Int32} (p1 : Int32) (p2 : Int32) (y : mY) (x : mX) : mS fm L xs (fun r : mY => (mU, mk x r)) pg_X11_nextRow 0 (m_entry [.ref 279, .int p1, .int p2] 7) [] (mk x y) ((f_X11_nextRow p1 p2 y)) := by
  unfold f_X11_nextRow
  refine mS_steps (pc' := 0) (ls' := [.ref 279, .int p1, .int p2, mU, mU, mU, mU]) (st' := []) (mem' := (mk x y)) 0 rfl ?_
  refine mS_steps (pc' := 4) (ls' := [.ref 279, .int p1, .int p2, .int (p2 - (2 : Int32)), mU, mU, mU]) (st' := []) (mem' := (mk x y)) 4 rfl ?_
  refine f_X11_nextRow_L4_snd p1 p2 y x _ ?_ mF (p2 - (2 : Int32))
  · intro v1
    refine mS_steps (pc' := 36) (ls' := [.ref 279, .int p1, .int p2, .int v1, .int (p2 - (1 : Int32)), mU, mU]) (st' := []) (mem' := (mk x y)) 4 rfl ?_
    refine f_X11_nextRow_L36_snd p1 p2 v1 y x _ ?_ mF (p2 - (1 : Int32))
    · intro v2
      refine mS_steps (pc' := 70) (ls' := [.ref 279, .int p1, .int p2, .int v1, .int v2, mU, mU]) (st' := [.int (p1 + v2), .int (p1 + v1), .ref 279]) (mem' := (mk x y)) 7 rfl ?_
      refine mS_bind (fun q3 hq3 => mS_call 152 3 [.ref 279, .int (p1 + v1), .int (p1 + v2)] [] rfl rfl rfl ⟨_, _, _, rfl, rfl⟩ (Nat.le_of_ble_eq_true rfl) (Nat.le_of_ble_eq_true rfl) hq3 (f_X11_changes_snd (p1 + v1) (p1 + v2) y x) ?_)
      refine mS_steps (pc' := 83) (ls' := [.ref 279, .int p1, .int p2, .int v1, .int v2, .int (v1 + (1 : Int32)), .int (p2 - (1 : Int32))]) (st' := []) (mem' := (mk x q3)) 8 rfl ?_
      refine mS_forget [.ref 279, .int p1, mU, mU, mU, .int (v1 + (1 : Int32)), .int (p2 - (1 : Int32))] ⟨Or.inr rfl, Or.inr rfl, Or.inl rfl, Or.inl rfl, Or.inl rfl, Or.inr rfl, Or.inr rfl, trivial⟩ ?_
      refine f_X11_nextRow_L83_snd p1 x mF (v1 + (1 : Int32)) (p2 - (1 : Int32)) q3
