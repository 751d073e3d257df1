/-! ===== methods as functions (written by wip/whole/gen/emitall.py) ===== -/
def f_X11_appends (p0 : Int64) (p1 : Int32) : Option Int64 := (if p1 = 0 then (some p0) else (some (((27 : Int64) * p0) + (((p1 - (97 : Int32)) + (1 : Int32)).toInt64))))
set_option maxRecDepth 20000 in
set_option maxHeartbeats 2000000 in
theorem f_X11_appends_snd {fm : Value} {L : Nat} {xs : Nat → Int32} (p0 : Int64) (p1 : Int32) (mem : mM) : mS fm L xs (fun r : Int64 => (.long r, mem)) pg_X11_appends 0 (m_entry [.long p0, .int p1] 3) [] mem ((f_X11_appends p0 p1)) := by
  unfold f_X11_appends
  refine mS_steps (pc' := 0) (ls' := [.long p0, mU, .int p1]) (st' := []) (mem' := mem) 0 rfl ?_
  refine mS_steps (pc' := 1) (ls' := [.long p0, mU, .int p1]) (st' := [.int p1]) (mem' := mem) 1 rfl ?_
  refine mS_if1 rfl (fun _ => ?_) (fun _ => ?_)
  · refine mS_steps (pc' := 21) (ls' := [.long p0, mU, .int p1]) (st' := [.long p0]) (mem' := mem) 2 rfl ?_
    exact mS_retl ⟨_, _, _, _, _, rfl⟩ rfl
  · refine mS_steps (pc' := 21) (ls' := [.long p0, mU, .int p1]) (st' := [.long (((27 : Int64) * p0) + (((p1 - (97 : Int32)) + (1 : Int32)).toInt64))]) (mem' := mem) 10 rfl ?_
    exact mS_retl ⟨_, _, _, _, _, rfl⟩ rfl
def f_X5_hasRoom (x : mX) : Int32 := (if (2000 : Int32) < ((x.1 1 0) + (20 : Int32)) then (0 : Int32) else (1 : Int32))
set_option maxRecDepth 20000 in
set_option maxHeartbeats 2000000 in
theorem f_X5_hasRoom_snd {fm : Value} {L : Nat} {xs : Nat → Int32} (x : mX) (y : mY) : mS fm L xs (fun r : Int32 => (.int r, (mk x y))) pg_X5_hasRoom 0 (m_entry [.ref 1] 1) [] (mk x y) (some (f_X5_hasRoom x)) := by
  unfold f_X5_hasRoom
  refine mS_steps (pc' := 0) (ls' := [.ref 1]) (st' := []) (mem' := (mk x y)) 0 rfl ?_
  refine mS_steps (pc' := 10) (ls' := [.ref 1]) (st' := [.int (2000 : Int32), .int ((x.1 1 0) + (20 : Int32))]) (mem' := (mk x y)) 5 rfl ?_
  refine mS_ic4T rfl (fun _ => ?_) (fun _ => ?_)
  · refine mS_steps (pc' := 18) (ls' := [.ref 1]) (st' := [.int (0 : Int32)]) (mem' := (mk x y)) 1 rfl ?_
    exact mS_reti ⟨_, _, _, _, _, rfl, (by decide)⟩ rfl
  · refine mS_steps (pc' := 18) (ls' := [.ref 1]) (st' := [.int (1 : Int32)]) (mem' := (mk x y)) 2 rfl ?_
    exact mS_reti ⟨_, _, _, _, _, rfl, (by decide)⟩ rfl
def f_X5_append_L3 (a1 : Int32) : Nat → Int32 → mX → Option mX
  | 0, _, _ => none
  | n + 1, a2, x => (if a2 < 0 then (some x) else (if (x.1 1 0) < 0 then (f_X5_append_L3 a1 n (a2 + (-8 : Int32)) x) else (if (2000 : Int32) ≤ (x.1 1 0) then (f_X5_append_L3 a1 n (a2 + (-8 : Int32)) x) else (if m_in (x.1 1 0) 2000 = true then (m_let (m_xs x 7 (x.1 1 0).toNatClampNeg (vp_nar .byte ((a1 >>> (a2 &&& 31)).toInt8.toInt32))) fun x1 => (m_let (m_xs x1 1 0 ((x1.1 1 0) + (1 : Int32))) fun x2 => (f_X5_append_L3 a1 n (a2 + (-8 : Int32)) x2))) else none))))
def f_X5_append (p1 : Int32) (x : mX) : Option mX := (f_X5_append_L3 p1 mF (24 : Int32) x)
set_option maxRecDepth 20000 in
set_option maxHeartbeats 2000000 in
theorem f_X5_append_L3_snd {fm : Value} {L : Nat} {xs : Nat → Int32} (a1 : Int32) (y : mY) : ∀ (n : Nat) (a2 : Int32) (x : mX), mS fm L xs (fun r : mX => (mU, mk r y)) pg_X5_append 3 [.ref 1, .int a1, .int a2] [] (mk x y) (f_X5_append_L3 a1 n a2 x) := by
  intro n
  induction n with
  | zero => intro a2 x; exact mS_none
  | succ n ih =>
    intro a2 x
    rw [f_X5_append_L3]
    refine mS_steps (pc' := 4) (ls' := [.ref 1, .int a1, .int a2]) (st' := [.int a2]) (mem' := (mk x y)) 1 rfl ?_
    refine mS_if2 rfl (fun _ => ?_) (fun _ => ?_)
    · exact mS_retv ⟨_, _, _, _, _, rfl⟩ rfl
    · refine mS_steps (pc' := 11) (ls' := [.ref 1, .int a1, .int a2]) (st' := [.int (x.1 1 0)]) (mem' := (mk x y)) 2 rfl ?_
      refine mS_if2 rfl (fun _ => ?_) (fun _ => ?_)
      · refine mS_steps (pc' := 3) (ls' := [.ref 1, .int a1, .int (a2 + (-8 : Int32))]) (st' := []) (mem' := (mk x y)) 2 rfl ?_
        exact ih (a2 + (-8 : Int32)) x
      · refine mS_steps (pc' := 21) (ls' := [.ref 1, .int a1, .int a2]) (st' := [.int (2000 : Int32), .int (x.1 1 0)]) (mem' := (mk x y)) 3 rfl ?_
        refine mS_ic3 rfl (fun _ => ?_) (fun _ => ?_)
        · refine mS_steps (pc' := 3) (ls' := [.ref 1, .int a1, .int (a2 + (-8 : Int32))]) (st' := []) (mem' := (mk x y)) 2 rfl ?_
          exact ih (a2 + (-8 : Int32)) x
        · refine mS_steps (pc' := 36) (ls' := [.ref 1, .int a1, .int a2]) (st' := [.int ((a1 >>> (a2 &&& 31)).toInt8.toInt32), .int (x.1 1 0), .ref 7]) (mem' := (mk x y)) 8 rfl ?_
          refine mS_ast2x (n := 2000) rfl rfl (by decide) (fun _ => ?_)
          refine mS_letx (fun x1 => ?_)
          refine mS_steps (pc' := 44) (ls' := [.ref 1, .int a1, .int a2]) (st' := [.int ((x1.1 1 0) + (1 : Int32)), .ref 1]) (mem' := (mk x1 y)) 5 rfl ?_
          refine mS_putx rfl rfl (by decide) rfl ?_
          refine mS_letx (fun x2 => ?_)
          refine mS_steps (pc' := 3) (ls' := [.ref 1, .int a1, .int (a2 + (-8 : Int32))]) (st' := []) (mem' := (mk x2 y)) 2 rfl ?_
          exact ih (a2 + (-8 : Int32)) x2
set_option maxRecDepth 20000 in
set_option maxHeartbeats 2000000 in
theorem f_X5_append_snd {fm : Value} {L : Nat} {xs : Nat → Int32} (p1 : Int32) (x : mX) (y : mY) : mS fm L xs (fun r : mX => (mU, mk r y)) pg_X5_append 0 (m_entry [.ref 1, .int p1] 3) [] (mk x y) ((f_X5_append p1 x)) := by
  unfold f_X5_append
  refine mS_steps (pc' := 0) (ls' := [.ref 1, .int p1, mU]) (st' := []) (mem' := (mk x y)) 0 rfl ?_
  refine mS_steps (pc' := 3) (ls' := [.ref 1, .int p1, .int (24 : Int32)]) (st' := []) (mem' := (mk x y)) 2 rfl ?_
  refine f_X5_append_L3_snd p1 y mF (24 : Int32) x
def f_X10_feed (p1 : Int32) (p2 : Int32) (p3 : Int32) (p4 : Int32) (p5 : Int32) (x : mX) : Option (Int32 × mX) := (if (f_X5_hasRoom x) = 0 then (some ((-1 : Int32), x)) else ((f_X5_append p1 x).bind fun q1 => ((f_X5_append p2 q1).bind fun q2 => ((f_X5_append p3 q2).bind fun q3 => ((f_X5_append p4 q3).bind fun q4 => ((f_X5_append p5 q4).bind fun q5 => (some ((q5.1 1 0), q5))))))))
set_option maxRecDepth 20000 in
set_option maxHeartbeats 2000000 in
theorem f_X10_feed_snd {fm : Value} {L : Nat} {xs : Nat → Int32} (p1 : Int32) (p2 : Int32) (p3 : Int32) (p4 : Int32) (p5 : Int32) (x : mX) (y : mY) : mS fm L xs (fun r : (Int32 × mX) => (.int r.1, mk r.2 y)) pg_X10_feed 0 (m_entry [.ref 0, .int p1, .int p2, .int p3, .int p4, .int p5] 6) [] (mk x y) ((f_X10_feed p1 p2 p3 p4 p5 x)) := by
  unfold f_X10_feed
  refine mS_steps (pc' := 0) (ls' := [.ref 0, .int p1, .int p2, .int p3, .int p4, .int p5]) (st' := []) (mem' := (mk x y)) 0 rfl ?_
  refine mS_steps (pc' := 4) (ls' := [.ref 0, .int p1, .int p2, .int p3, .int p4, .int p5]) (st' := [.ref 1]) (mem' := (mk x y)) 2 rfl ?_
  refine mS_call (q := (f_X5_hasRoom x)) 14 1 [.ref 1] [] rfl rfl rfl ⟨_, _, _, rfl, rfl⟩ (Nat.le_of_ble_eq_true rfl) (Nat.le_of_ble_eq_true rfl) rfl (f_X5_hasRoom_snd  x y) ?_
  refine mS_steps (pc' := 7) (ls' := [.ref 0, .int p1, .int p2, .int p3, .int p4, .int p5]) (st' := [.int (f_X5_hasRoom x)]) (mem' := (mk x y)) 0 rfl ?_
  refine mS_if1 rfl (fun _ => ?_) (fun _ => ?_)
  · refine mS_steps (pc' := 11) (ls' := [.ref 0, .int p1, .int p2, .int p3, .int p4, .int p5]) (st' := [.int (-1 : Int32)]) (mem' := (mk x y)) 1 rfl ?_
    exact mS_reti ⟨_, _, _, _, _, rfl, rfl⟩ rfl
  · refine mS_steps (pc' := 17) (ls' := [.ref 0, .int p1, .int p2, .int p3, .int p4, .int p5]) (st' := [.int p1, .ref 1]) (mem' := (mk x y)) 3 rfl ?_
    refine mS_bind (fun q1 hq1 => mS_call 15 2 [.ref 1, .int p1] [] rfl rfl rfl ⟨_, _, _, rfl, rfl⟩ (Nat.le_of_ble_eq_true rfl) (Nat.le_of_ble_eq_true rfl) hq1 (f_X5_append_snd p1 x y) ?_)
    refine mS_steps (pc' := 25) (ls' := [.ref 0, .int p1, .int p2, .int p3, .int p4, .int p5]) (st' := [.int p2, .ref 1]) (mem' := (mk q1 y)) 3 rfl ?_
    refine mS_bind (fun q2 hq2 => mS_call 15 2 [.ref 1, .int p2] [] rfl rfl rfl ⟨_, _, _, rfl, rfl⟩ (Nat.le_of_ble_eq_true rfl) (Nat.le_of_ble_eq_true rfl) hq2 (f_X5_append_snd p2 q1 y) ?_)
    refine mS_steps (pc' := 33) (ls' := [.ref 0, .int p1, .int p2, .int p3, .int p4, .int p5]) (st' := [.int p3, .ref 1]) (mem' := (mk q2 y)) 3 rfl ?_
    refine mS_bind (fun q3 hq3 => mS_call 15 2 [.ref 1, .int p3] [] rfl rfl rfl ⟨_, _, _, rfl, rfl⟩ (Nat.le_of_ble_eq_true rfl) (Nat.le_of_ble_eq_true rfl) hq3 (f_X5_append_snd p3 q2 y) ?_)
    refine mS_steps (pc' := 42) (ls' := [.ref 0, .int p1, .int p2, .int p3, .int p4, .int p5]) (st' := [.int p4, .ref 1]) (mem' := (mk q3 y)) 3 rfl ?_
    refine mS_bind (fun q4 hq4 => mS_call 15 2 [.ref 1, .int p4] [] rfl rfl rfl ⟨_, _, _, rfl, rfl⟩ (Nat.le_of_ble_eq_true rfl) (Nat.le_of_ble_eq_true rfl) hq4 (f_X5_append_snd p4 q3 y) ?_)
    refine mS_steps (pc' := 51) (ls' := [.ref 0, .int p1, .int p2, .int p3, .int p4, .int p5]) (st' := [.int p5, .ref 1]) (mem' := (mk q4 y)) 3 rfl ?_
    refine mS_bind (fun q5 hq5 => mS_call 15 2 [.ref 1, .int p5] [] rfl rfl rfl ⟨_, _, _, rfl, rfl⟩ (Nat.le_of_ble_eq_true rfl) (Nat.le_of_ble_eq_true rfl) hq5 (f_X5_append_snd p5 q4 y) ?_)
    refine mS_steps (pc' := 61) (ls' := [.ref 0, .int p1, .int p2, .int p3, .int p4, .int p5]) (st' := [.int (q5.1 1 0)]) (mem' := (mk q5 y)) 3 rfl ?_
    exact mS_reti ⟨_, _, _, _, _, rfl, rfl⟩ rfl
def f_X11_lays_L3 (a1 : Int32) : Nat → Int32 → mY → Option mY
  | 0, _, _ => none
  | n + 1, a2, y => (if a2 < 0 then (some y) else (if m_in (y.1 279 2) 2000 = true then (m_let (m_ys y 280 (y.1 279 2).toNatClampNeg (vp_nar .byte ((a1 >>> (a2 &&& 31)).toInt8.toInt32))) fun y1 => (m_let (m_ys y1 279 2 ((y1.1 279 2) + (1 : Int32))) fun y2 => (f_X11_lays_L3 a1 n (a2 + (-8 : Int32)) y2))) else none))
def f_X11_lays (p1 : Int32) (y : mY) : Option mY := (f_X11_lays_L3 p1 mF (24 : Int32) y)
set_option maxRecDepth 20000 in
set_option maxHeartbeats 2000000 in
theorem f_X11_lays_L3_snd {fm : Value} {L : Nat} {xs : Nat → Int32} (a1 : Int32) (x : mX) : ∀ (n : Nat) (a2 : Int32) (y : mY), mS fm L xs (fun r : mY => (mU, mk x r)) pg_X11_lays 3 [.ref 279, .int a1, .int a2] [] (mk x y) (f_X11_lays_L3 a1 n a2 y) := by
  intro n
  induction n with
  | zero => intro a2 y; exact mS_none
  | succ n ih =>
    intro a2 y
    rw [f_X11_lays_L3]
    refine mS_steps (pc' := 4) (ls' := [.ref 279, .int a1, .int a2]) (st' := [.int a2]) (mem' := (mk x y)) 1 rfl ?_
    refine mS_if2 rfl (fun _ => ?_) (fun _ => ?_)
    · exact mS_retv ⟨_, _, _, _, _, rfl⟩ rfl
    · refine mS_steps (pc' := 19) (ls' := [.ref 279, .int a1, .int a2]) (st' := [.int ((a1 >>> (a2 &&& 31)).toInt8.toInt32), .int (y.1 279 2), .ref 280]) (mem' := (mk x y)) 8 rfl ?_
      refine mS_ast2y (n := 2000) rfl rfl (by decide) (fun _ => ?_)
      refine mS_lety (fun y1 => ?_)
      refine mS_steps (pc' := 27) (ls' := [.ref 279, .int a1, .int a2]) (st' := [.int ((y1.1 279 2) + (1 : Int32)), .ref 279]) (mem' := (mk x y1)) 5 rfl ?_
      refine mS_puty rfl rfl (by decide) rfl ?_
      refine mS_lety (fun y2 => ?_)
      refine mS_steps (pc' := 3) (ls' := [.ref 279, .int a1, .int (a2 + (-8 : Int32))]) (st' := []) (mem' := (mk x y2)) 2 rfl ?_
      exact ih (a2 + (-8 : Int32)) y2
set_option maxRecDepth 20000 in
set_option maxHeartbeats 2000000 in
theorem f_X11_lays_snd {fm : Value} {L : Nat} {xs : Nat → Int32} (p1 : Int32) (y : mY) (x : mX) : mS fm L xs (fun r : mY => (mU, mk x r)) pg_X11_lays 0 (m_entry [.ref 279, .int p1] 3) [] (mk x y) ((f_X11_lays p1 y)) := by
  unfold f_X11_lays
  refine mS_steps (pc' := 0) (ls' := [.ref 279, .int p1, mU]) (st' := []) (mem' := (mk x y)) 0 rfl ?_
  refine mS_steps (pc' := 3) (ls' := [.ref 279, .int p1, .int (24 : Int32)]) (st' := []) (mem' := (mk x y)) 2 rfl ?_
  refine f_X11_lays_L3_snd p1 x mF (24 : Int32) y
def f_X11_feed (p1 : Int32) (p2 : Int32) (p3 : Int32) (p4 : Int32) (p5 : Int32) (y : mY) : Option (Int32 × mY) := (if ((y.1 279 2) + (20 : Int32)) ≤ (2000 : Int32) then ((f_X11_lays p1 y).bind fun q1 => ((f_X11_lays p2 q1).bind fun q2 => ((f_X11_lays p3 q2).bind fun q3 => ((f_X11_lays p4 q3).bind fun q4 => ((f_X11_lays p5 q4).bind fun q5 => (some ((q5.1 279 2), q5))))))) else (some ((-1 : Int32), y)))
set_option maxRecDepth 20000 in
set_option maxHeartbeats 2000000 in
theorem f_X11_feed_snd {fm : Value} {L : Nat} {xs : Nat → Int32} (p1 : Int32) (p2 : Int32) (p3 : Int32) (p4 : Int32) (p5 : Int32) (y : mY) (x : mX) : mS fm L xs (fun r : (Int32 × mY) => (.int r.1, mk x r.2)) pg_X11_feed 0 (m_entry [.ref 279, .int p1, .int p2, .int p3, .int p4, .int p5] 6) [] (mk x y) ((f_X11_feed p1 p2 p3 p4 p5 y)) := by
  unfold f_X11_feed
  refine mS_steps (pc' := 0) (ls' := [.ref 279, .int p1, .int p2, .int p3, .int p4, .int p5]) (st' := []) (mem' := (mk x y)) 0 rfl ?_
  refine mS_steps (pc' := 10) (ls' := [.ref 279, .int p1, .int p2, .int p3, .int p4, .int p5]) (st' := [.int (2000 : Int32), .int ((y.1 279 2) + (20 : Int32))]) (mem' := (mk x y)) 5 rfl ?_
  refine mS_ic5 rfl (fun _ => ?_) (fun _ => ?_)
  · refine mS_steps (pc' := 17) (ls' := [.ref 279, .int p1, .int p2, .int p3, .int p4, .int p5]) (st' := [.int p1, .ref 279]) (mem' := (mk x y)) 2 rfl ?_
    refine mS_bind (fun q1 hq1 => mS_call 17 2 [.ref 279, .int p1] [] rfl rfl rfl ⟨_, _, _, rfl, rfl⟩ (Nat.le_of_ble_eq_true rfl) (Nat.le_of_ble_eq_true rfl) hq1 (f_X11_lays_snd p1 y x) ?_)
    refine mS_steps (pc' := 22) (ls' := [.ref 279, .int p1, .int p2, .int p3, .int p4, .int p5]) (st' := [.int p2, .ref 279]) (mem' := (mk x q1)) 2 rfl ?_
    refine mS_bind (fun q2 hq2 => mS_call 17 2 [.ref 279, .int p2] [] rfl rfl rfl ⟨_, _, _, rfl, rfl⟩ (Nat.le_of_ble_eq_true rfl) (Nat.le_of_ble_eq_true rfl) hq2 (f_X11_lays_snd p2 q1 x) ?_)
    refine mS_steps (pc' := 27) (ls' := [.ref 279, .int p1, .int p2, .int p3, .int p4, .int p5]) (st' := [.int p3, .ref 279]) (mem' := (mk x q2)) 2 rfl ?_
    refine mS_bind (fun q3 hq3 => mS_call 17 2 [.ref 279, .int p3] [] rfl rfl rfl ⟨_, _, _, rfl, rfl⟩ (Nat.le_of_ble_eq_true rfl) (Nat.le_of_ble_eq_true rfl) hq3 (f_X11_lays_snd p3 q2 x) ?_)
    refine mS_steps (pc' := 33) (ls' := [.ref 279, .int p1, .int p2, .int p3, .int p4, .int p5]) (st' := [.int p4, .ref 279]) (mem' := (mk x q3)) 2 rfl ?_
    refine mS_bind (fun q4 hq4 => mS_call 17 2 [.ref 279, .int p4] [] rfl rfl rfl ⟨_, _, _, rfl, rfl⟩ (Nat.le_of_ble_eq_true rfl) (Nat.le_of_ble_eq_true rfl) hq4 (f_X11_lays_snd p4 q3 x) ?_)
    refine mS_steps (pc' := 39) (ls' := [.ref 279, .int p1, .int p2, .int p3, .int p4, .int p5]) (st' := [.int p5, .ref 279]) (mem' := (mk x q4)) 2 rfl ?_
    refine mS_bind (fun q5 hq5 => mS_call 17 2 [.ref 279, .int p5] [] rfl rfl rfl ⟨_, _, _, rfl, rfl⟩ (Nat.le_of_ble_eq_true rfl) (Nat.le_of_ble_eq_true rfl) hq5 (f_X11_lays_snd p5 q4 x) ?_)
    refine mS_steps (pc' := 46) (ls' := [.ref 279, .int p1, .int p2, .int p3, .int p4, .int p5]) (st' := [.int (q5.1 279 2)]) (mem' := (mk x q5)) 2 rfl ?_
    exact mS_reti ⟨_, _, _, _, _, rfl, rfl⟩ rfl
  · refine mS_steps (pc' := 14) (ls' := [.ref 279, .int p1, .int p2, .int p3, .int p4, .int p5]) (st' := [.int (-1 : Int32)]) (mem' := (mk x y)) 1 rfl ?_
    exact mS_reti ⟨_, _, _, _, _, rfl, rfl⟩ rfl
def f_X10_back (p1 : Int32) (x : mX) : Option (Int32 × mX) := (if p1 < 0 then (some ((-1 : Int32), x)) else (if p1 ≤ (x.1 1 0) then (m_let (m_xs x 1 0 ((x.1 1 0) - p1)) fun x1 => (some ((x1.1 1 0), x1))) else (some ((-1 : Int32), x))))
set_option maxRecDepth 20000 in
set_option maxHeartbeats 2000000 in
theorem f_X10_back_snd {fm : Value} {L : Nat} {xs : Nat → Int32} (p1 : Int32) (x : mX) (y : mY) : mS fm L xs (fun r : (Int32 × mX) => (.int r.1, mk r.2 y)) pg_X10_back 0 (m_entry [.ref 0, .int p1] 2) [] (mk x y) ((f_X10_back p1 x)) := by
  unfold f_X10_back
  refine mS_steps (pc' := 0) (ls' := [.ref 0, .int p1]) (st' := []) (mem' := (mk x y)) 0 rfl ?_
  refine mS_steps (pc' := 1) (ls' := [.ref 0, .int p1]) (st' := [.int p1]) (mem' := (mk x y)) 1 rfl ?_
  refine mS_if2 rfl (fun _ => ?_) (fun _ => ?_)
  · refine mS_steps (pc' := 16) (ls' := [.ref 0, .int p1]) (st' := [.int (-1 : Int32)]) (mem' := (mk x y)) 1 rfl ?_
    exact mS_reti ⟨_, _, _, _, _, rfl, rfl⟩ rfl
  · refine mS_steps (pc' := 12) (ls' := [.ref 0, .int p1]) (st' := [.int (x.1 1 0), .int p1]) (mem' := (mk x y)) 4 rfl ?_
    refine mS_ic5 rfl (fun _ => ?_) (fun _ => ?_)
    · refine mS_steps (pc' := 27) (ls' := [.ref 0, .int p1]) (st' := [.int ((x.1 1 0) - p1), .ref 1]) (mem' := (mk x y)) 6 rfl ?_
      refine mS_putx rfl rfl (by decide) rfl ?_
      refine mS_letx (fun x1 => ?_)
      refine mS_steps (pc' := 37) (ls' := [.ref 0, .int p1]) (st' := [.int (x1.1 1 0)]) (mem' := (mk x1 y)) 3 rfl ?_
      exact mS_reti ⟨_, _, _, _, _, rfl, rfl⟩ rfl
    · refine mS_steps (pc' := 16) (ls' := [.ref 0, .int p1]) (st' := [.int (-1 : Int32)]) (mem' := (mk x y)) 1 rfl ?_
      exact mS_reti ⟨_, _, _, _, _, rfl, rfl⟩ rfl
def f_X11_back (p1 : Int32) (y : mY) : Option (Int32 × mY) := (if p1 < 0 then (some ((-1 : Int32), y)) else (if p1 ≤ (y.1 279 2) then (m_let (m_ys y 279 2 ((y.1 279 2) - p1)) fun y1 => (some ((y1.1 279 2), y1))) else (some ((-1 : Int32), y))))
set_option maxRecDepth 20000 in
set_option maxHeartbeats 2000000 in
theorem f_X11_back_snd {fm : Value} {L : Nat} {xs : Nat → Int32} (p1 : Int32) (y : mY) (x : mX) : mS fm L xs (fun r : (Int32 × mY) => (.int r.1, mk x r.2)) pg_X11_back 0 (m_entry [.ref 279, .int p1] 2) [] (mk x y) ((f_X11_back p1 y)) := by
  unfold f_X11_back
  refine mS_steps (pc' := 0) (ls' := [.ref 279, .int p1]) (st' := []) (mem' := (mk x y)) 0 rfl ?_
  refine mS_steps (pc' := 1) (ls' := [.ref 279, .int p1]) (st' := [.int p1]) (mem' := (mk x y)) 1 rfl ?_
  refine mS_if2 rfl (fun _ => ?_) (fun _ => ?_)
  · refine mS_steps (pc' := 13) (ls' := [.ref 279, .int p1]) (st' := [.int (-1 : Int32)]) (mem' := (mk x y)) 1 rfl ?_
    exact mS_reti ⟨_, _, _, _, _, rfl, rfl⟩ rfl
  · refine mS_steps (pc' := 9) (ls' := [.ref 279, .int p1]) (st' := [.int (y.1 279 2), .int p1]) (mem' := (mk x y)) 3 rfl ?_
    refine mS_ic5 rfl (fun _ => ?_) (fun _ => ?_)
    · refine mS_steps (pc' := 21) (ls' := [.ref 279, .int p1]) (st' := [.int ((y.1 279 2) - p1), .ref 279]) (mem' := (mk x y)) 5 rfl ?_
      refine mS_puty rfl rfl (by decide) rfl ?_
      refine mS_lety (fun y1 => ?_)
      refine mS_steps (pc' := 28) (ls' := [.ref 279, .int p1]) (st' := [.int (y1.1 279 2)]) (mem' := (mk x y1)) 2 rfl ?_
      exact mS_reti ⟨_, _, _, _, _, rfl, rfl⟩ rfl
    · refine mS_steps (pc' := 13) (ls' := [.ref 279, .int p1]) (st' := [.int (-1 : Int32)]) (mem' := (mk x y)) 1 rfl ?_
      exact mS_reti ⟨_, _, _, _, _, rfl, rfl⟩ rfl
def f_X5_byteAt (p1 : Int32) (x : mX) : Option Int32 := (if p1 < 0 then (some (-1 : Int32)) else (if (x.1 1 0) ≤ p1 then (some (-1 : Int32)) else (if (2000 : Int32) ≤ p1 then (some (-1 : Int32)) else (if m_in p1 2000 = true then (some ((x.1 7 p1.toNatClampNeg) &&& (255 : Int32))) else none))))
set_option maxRecDepth 20000 in
set_option maxHeartbeats 2000000 in
theorem f_X5_byteAt_snd {fm : Value} {L : Nat} {xs : Nat → Int32} (p1 : Int32) (x : mX) (y : mY) : mS fm L xs (fun r : Int32 => (.int r, (mk x y))) pg_X5_byteAt 0 (m_entry [.ref 1, .int p1] 2) [] (mk x y) ((f_X5_byteAt p1 x)) := by
  unfold f_X5_byteAt
  refine mS_steps (pc' := 0) (ls' := [.ref 1, .int p1]) (st' := []) (mem' := (mk x y)) 0 rfl ?_
  refine mS_steps (pc' := 1) (ls' := [.ref 1, .int p1]) (st' := [.int p1]) (mem' := (mk x y)) 1 rfl ?_
  refine mS_if2 rfl (fun _ => ?_) (fun _ => ?_)
  · refine mS_steps (pc' := 33) (ls' := [.ref 1, .int p1]) (st' := [.int (-1 : Int32)]) (mem' := (mk x y)) 1 rfl ?_
    exact mS_reti ⟨_, _, _, _, _, rfl, rfl⟩ rfl
  · refine mS_steps (pc' := 9) (ls' := [.ref 1, .int p1]) (st' := [.int (x.1 1 0), .int p1]) (mem' := (mk x y)) 3 rfl ?_
    refine mS_ic3 rfl (fun _ => ?_) (fun _ => ?_)
    · refine mS_steps (pc' := 33) (ls' := [.ref 1, .int p1]) (st' := [.int (-1 : Int32)]) (mem' := (mk x y)) 1 rfl ?_
      exact mS_reti ⟨_, _, _, _, _, rfl, rfl⟩ rfl
    · refine mS_steps (pc' := 16) (ls' := [.ref 1, .int p1]) (st' := [.int (2000 : Int32), .int p1]) (mem' := (mk x y)) 2 rfl ?_
      refine mS_ic3 rfl (fun _ => ?_) (fun _ => ?_)
      · refine mS_steps (pc' := 33) (ls' := [.ref 1, .int p1]) (st' := [.int (-1 : Int32)]) (mem' := (mk x y)) 1 rfl ?_
        exact mS_reti ⟨_, _, _, _, _, rfl, rfl⟩ rfl
      · refine mS_steps (pc' := 24) (ls' := [.ref 1, .int p1]) (st' := [.int p1, .ref 7]) (mem' := (mk x y)) 3 rfl ?_
        refine mS_ald (b := 2) (n := 2000) (z := (x.1 7 p1.toNatClampNeg)) rfl (by decide) rfl (by decide) rfl (fun _ => ?_)
        refine mS_steps (pc' := 33) (ls' := [.ref 1, .int p1]) (st' := [.int ((x.1 7 p1.toNatClampNeg) &&& (255 : Int32))]) (mem' := (mk x y)) 3 rfl ?_
        exact mS_reti ⟨_, _, _, _, _, rfl, rfl⟩ rfl
def f_X5_isBlank (p0 : Int32) : Int32 := (if p0 = (9 : Int32) then (1 : Int32) else (if p0 = (10 : Int32) then (1 : Int32) else (if p0 = (13 : Int32) then (1 : Int32) else (if p0 = (32 : Int32) then (1 : Int32) else (0 : Int32)))))
set_option maxRecDepth 20000 in
set_option maxHeartbeats 2000000 in
theorem f_X5_isBlank_snd {fm : Value} {L : Nat} {xs : Nat → Int32} (p0 : Int32) (mem : mM) : mS fm L xs (fun r : Int32 => (.int r, mem)) pg_X5_isBlank 0 (m_entry [.int p0] 1) [] mem (some (f_X5_isBlank p0)) := by
  unfold f_X5_isBlank
  refine mS_steps (pc' := 0) (ls' := [.int p0]) (st' := []) (mem' := mem) 0 rfl ?_
  refine mS_steps (pc' := 3) (ls' := [.int p0]) (st' := [.int (9 : Int32), .int p0]) (mem' := mem) 2 rfl ?_
  refine mS_ic0T rfl (fun _ => ?_) (fun _ => ?_)
  · refine mS_steps (pc' := 29) (ls' := [.int p0]) (st' := [.int (1 : Int32)]) (mem' := mem) 2 rfl ?_
    exact mS_reti ⟨_, _, _, _, _, rfl, (by decide)⟩ rfl
  · refine mS_steps (pc' := 9) (ls' := [.int p0]) (st' := [.int (10 : Int32), .int p0]) (mem' := mem) 2 rfl ?_
    refine mS_ic0T rfl (fun _ => ?_) (fun _ => ?_)
    · refine mS_steps (pc' := 29) (ls' := [.int p0]) (st' := [.int (1 : Int32)]) (mem' := mem) 2 rfl ?_
      exact mS_reti ⟨_, _, _, _, _, rfl, (by decide)⟩ rfl
    · refine mS_steps (pc' := 15) (ls' := [.int p0]) (st' := [.int (13 : Int32), .int p0]) (mem' := mem) 2 rfl ?_
      refine mS_ic0T rfl (fun _ => ?_) (fun _ => ?_)
      · refine mS_steps (pc' := 29) (ls' := [.int p0]) (st' := [.int (1 : Int32)]) (mem' := mem) 2 rfl ?_
        exact mS_reti ⟨_, _, _, _, _, rfl, (by decide)⟩ rfl
      · refine mS_steps (pc' := 21) (ls' := [.int p0]) (st' := [.int (32 : Int32), .int p0]) (mem' := mem) 2 rfl ?_
        refine mS_ic1T rfl (fun _ => ?_) (fun _ => ?_)
        · refine mS_steps (pc' := 29) (ls' := [.int p0]) (st' := [.int (1 : Int32)]) (mem' := mem) 2 rfl ?_
          exact mS_reti ⟨_, _, _, _, _, rfl, (by decide)⟩ rfl
        · refine mS_steps (pc' := 29) (ls' := [.int p0]) (st' := [.int (0 : Int32)]) (mem' := mem) 1 rfl ?_
          exact mS_reti ⟨_, _, _, _, _, rfl, (by decide)⟩ rfl
def f_X5_afterBlanks_L4 : Nat → Int32 → Int32 → mX → Option Int32
  | 0, _, _, _ => none
  | n + 1, a2, a3, x => (if (2000 : Int32) ≤ a3 then (some a2) else ((f_X5_byteAt a2 x).bind fun q1 => (if (f_X5_isBlank q1) = 0 then (some a2) else (f_X5_afterBlanks_L4 n (a2 + (1 : Int32)) (a3 + (1 : Int32)) x))))
def f_X5_afterBlanks (p1 : Int32) (x : mX) : Option Int32 := (f_X5_afterBlanks_L4 mF p1 (0 : Int32) x)
set_option maxRecDepth 20000 in
set_option maxHeartbeats 2000000 in
theorem f_X5_afterBlanks_L4_snd {fm : Value} {L : Nat} {xs : Nat → Int32} (x : mX) (y : mY) : ∀ (n : Nat) (a2 : Int32) (a3 : Int32), mS fm L xs (fun r : Int32 => (.int r, (mk x y))) pg_X5_afterBlanks 4 [.ref 1, mU, .int a2, .int a3] [] (mk x y) (f_X5_afterBlanks_L4 n a2 a3 x) := by
  intro n
  induction n with
  | zero => intro a2 a3; exact mS_none
  | succ n ih =>
    intro a2 a3
    rw [f_X5_afterBlanks_L4]
    refine mS_steps (pc' := 8) (ls' := [.ref 1, mU, .int a2, .int a3]) (st' := [.int (2000 : Int32), .int a3]) (mem' := (mk x y)) 2 rfl ?_
    refine mS_ic3 rfl (fun _ => ?_) (fun _ => ?_)
    · refine mS_steps (pc' := 32) (ls' := [.ref 1, mU, .int a2, .int a3]) (st' := [.int a2]) (mem' := (mk x y)) 1 rfl ?_
      exact mS_reti ⟨_, _, _, _, _, rfl, rfl⟩ rfl
    · refine mS_steps (pc' := 13) (ls' := [.ref 1, mU, .int a2, .int a3]) (st' := [.int a2, .ref 1]) (mem' := (mk x y)) 2 rfl ?_
      refine mS_bind (fun q1 hq1 => mS_call 21 2 [.ref 1, .int a2] [] rfl rfl rfl ⟨_, _, _, rfl, rfl⟩ (Nat.le_of_ble_eq_true rfl) (Nat.le_of_ble_eq_true rfl) hq1 (f_X5_byteAt_snd a2 x y) ?_)
      refine mS_steps (pc' := 16) (ls' := [.ref 1, mU, .int a2, .int a3]) (st' := [.int q1]) (mem' := (mk x y)) 0 rfl ?_
      refine mS_call (q := (f_X5_isBlank q1)) 22 1 [.int q1] [] rfl rfl rfl ⟨_, _, _, rfl, rfl⟩ (Nat.le_of_ble_eq_true rfl) (Nat.le_of_ble_eq_true rfl) rfl (f_X5_isBlank_snd q1 (mk x y)) ?_
      refine mS_steps (pc' := 19) (ls' := [.ref 1, mU, .int a2, .int a3]) (st' := [.int (f_X5_isBlank q1)]) (mem' := (mk x y)) 0 rfl ?_
      refine mS_if0 rfl (fun _ => ?_) (fun _ => ?_)
      · refine mS_steps (pc' := 32) (ls' := [.ref 1, mU, .int a2, .int a3]) (st' := [.int a2]) (mem' := (mk x y)) 1 rfl ?_
        exact mS_reti ⟨_, _, _, _, _, rfl, rfl⟩ rfl
      · refine mS_steps (pc' := 4) (ls' := [.ref 1, mU, .int (a2 + (1 : Int32)), .int (a3 + (1 : Int32))]) (st' := []) (mem' := (mk x y)) 3 rfl ?_
        exact ih (a2 + (1 : Int32)) (a3 + (1 : Int32))
set_option maxRecDepth 20000 in
set_option maxHeartbeats 2000000 in
theorem f_X5_afterBlanks_snd {fm : Value} {L : Nat} {xs : Nat → Int32} (p1 : Int32) (x : mX) (y : mY) : mS fm L xs (fun r : Int32 => (.int r, (mk x y))) pg_X5_afterBlanks 0 (m_entry [.ref 1, .int p1] 4) [] (mk x y) ((f_X5_afterBlanks p1 x)) := by
  unfold f_X5_afterBlanks
  refine mS_steps (pc' := 0) (ls' := [.ref 1, .int p1, mU, mU]) (st' := []) (mem' := (mk x y)) 0 rfl ?_
  refine mS_steps (pc' := 4) (ls' := [.ref 1, .int p1, .int p1, .int (0 : Int32)]) (st' := []) (mem' := (mk x y)) 4 rfl ?_
  refine mS_forget [.ref 1, mU, .int p1, .int (0 : Int32)] ⟨Or.inr rfl, Or.inl rfl, Or.inr rfl, Or.inr rfl, trivial⟩ ?_
  refine f_X5_afterBlanks_L4_snd x y mF p1 (0 : Int32)
def f_J0_coder_7d493 (r0 : Nat) : Option Int32 := (if (1 : Int32) = 0 then (some (1 : Int32)) else (if r0 < 9 then (some (0 : Int32)) else none))
set_option maxRecDepth 20000 in
set_option maxHeartbeats 2000000 in
theorem f_J0_coder_7d493_snd {fm : Value} {L : Nat} {xs : Nat → Int32} (r0 : Nat) (mem : mM) : mS fm L xs (fun r : Int32 => (.int r, mem)) pg_J0_coder_7d493 0 (m_entry [.ref (mBIG + r0)] 1) [] mem ((f_J0_coder_7d493 r0)) := by
  unfold f_J0_coder_7d493
  refine mS_steps (pc' := 0) (ls' := [.ref (mBIG + r0)]) (st' := []) (mem' := mem) 0 rfl ?_
  refine mS_steps (pc' := 3) (ls' := [.ref (mBIG + r0)]) (st' := [.int (1 : Int32)]) (mem' := mem) 1 rfl ?_
  refine mS_if0 rfl (fun _ => ?_) (fun _ => ?_)
  · refine mS_steps (pc' := 14) (ls' := [.ref (mBIG + r0)]) (st' := [.int (1 : Int32)]) (mem' := mem) 1 rfl ?_
    exact mS_reti ⟨_, _, _, _, _, rfl, (by decide)⟩ rfl
  · refine mS_steps (pc' := 7) (ls' := [.ref (mBIG + r0)]) (st' := [.ref (mBIG + r0)]) (mem' := mem) 1 rfl ?_
    refine mS_s34 rfl (fun _ => ?_)
    refine mS_steps (pc' := 14) (ls' := [.ref (mBIG + r0)]) (st' := [.int (0 : Int32)]) (mem' := mem) 1 rfl ?_
    exact mS_reti ⟨_, _, _, _, _, rfl, (by decide)⟩ rfl
def f_J0_length_8abf5 (r0 : Nat) : Option Int32 := (if r0 < 9 then (if r0 < 9 then (if r0 < 9 then ((f_J0_coder_7d493 r0).bind fun q1 => (some ((m_sl r0) >>> (q1 &&& 31)))) else none) else none) else none)
set_option maxRecDepth 20000 in
set_option maxHeartbeats 2000000 in
theorem f_J0_length_8abf5_snd {fm : Value} {L : Nat} {xs : Nat → Int32} (r0 : Nat) (mem : mM) : mS fm L xs (fun r : Int32 => (.int r, mem)) pg_J0_length_8abf5 0 (m_entry [.ref (mBIG + r0)] 1) [] mem ((f_J0_length_8abf5 r0)) := by
  unfold f_J0_length_8abf5
  refine mS_steps (pc' := 0) (ls' := [.ref (mBIG + r0)]) (st' := []) (mem' := mem) 0 rfl ?_
  refine mS_steps (pc' := 1) (ls' := [.ref (mBIG + r0)]) (st' := [.ref (mBIG + r0)]) (mem' := mem) 1 rfl ?_
  refine mS_s33 rfl (fun _ => ?_)
  refine mS_s38 rfl (fun _ => ?_)
  refine mS_steps (pc' := 6) (ls' := [.ref (mBIG + r0)]) (st' := [.ref (mBIG + r0), .int (m_sl r0)]) (mem' := mem) 1 rfl ?_
  refine mS_guard (fun hj => ?_)
  refine mS_bind (fun q1 hq1 => mS_call 24 1 [.ref (mBIG + r0)] [.int (m_sl r0)] rfl rfl rfl ⟨_, _, _, rfl, (m_rcvS hj)⟩ (Nat.le_of_ble_eq_true rfl) (Nat.le_of_ble_eq_true rfl) hq1 (f_J0_coder_7d493_snd r0 mem) ?_)
  refine mS_steps (pc' := 10) (ls' := [.ref (mBIG + r0)]) (st' := [.int ((m_sl r0) >>> (q1 &&& 31))]) (mem' := mem) 1 rfl ?_
  exact mS_reti ⟨_, _, _, _, _, rfl, rfl⟩ rfl
def f_X5_failAt (p1 : Int32) (p2 : Int32) (x : mX) : Option (Int32 × mX) := (m_let (m_xs x 1 1 p2) fun x1 => (some (p1, x1)))
set_option maxRecDepth 20000 in
set_option maxHeartbeats 2000000 in
theorem f_X5_failAt_snd {fm : Value} {L : Nat} {xs : Nat → Int32} (p1 : Int32) (p2 : Int32) (x : mX) (y : mY) : mS fm L xs (fun r : (Int32 × mX) => (.int r.1, mk r.2 y)) pg_X5_failAt 0 (m_entry [.ref 1, .int p1, .int p2] 3) [] (mk x y) ((f_X5_failAt p1 p2 x)) := by
  unfold f_X5_failAt
  refine mS_steps (pc' := 0) (ls' := [.ref 1, .int p1, .int p2]) (st' := []) (mem' := (mk x y)) 0 rfl ?_
  refine mS_steps (pc' := 2) (ls' := [.ref 1, .int p1, .int p2]) (st' := [.int p2, .ref 1]) (mem' := (mk x y)) 2 rfl ?_
  refine mS_putx rfl rfl (by decide) rfl ?_
  refine mS_letx (fun x1 => ?_)
  refine mS_steps (pc' := 6) (ls' := [.ref 1, .int p1, .int p2]) (st' := [.int p1]) (mem' := (mk x1 y)) 1 rfl ?_
  exact mS_reti ⟨_, _, _, _, _, rfl, rfl⟩ rfl
def f_X5_isLetter (p0 : Int32) : Int32 := (if p0 < (97 : Int32) then (0 : Int32) else (if (122 : Int32) < p0 then (0 : Int32) else (1 : Int32)))
set_option maxRecDepth 20000 in
set_option maxHeartbeats 2000000 in
theorem f_X5_isLetter_snd {fm : Value} {L : Nat} {xs : Nat → Int32} (p0 : Int32) (mem : mM) : mS fm L xs (fun r : Int32 => (.int r, mem)) pg_X5_isLetter 0 (m_entry [.int p0] 1) [] mem (some (f_X5_isLetter p0)) := by
  unfold f_X5_isLetter
  refine mS_steps (pc' := 0) (ls' := [.int p0]) (st' := []) (mem' := mem) 0 rfl ?_
  refine mS_steps (pc' := 3) (ls' := [.int p0]) (st' := [.int (97 : Int32), .int p0]) (mem' := mem) 2 rfl ?_
  refine mS_ic2T rfl (fun _ => ?_) (fun _ => ?_)
  · refine mS_steps (pc' := 17) (ls' := [.int p0]) (st' := [.int (0 : Int32)]) (mem' := mem) 1 rfl ?_
    exact mS_reti ⟨_, _, _, _, _, rfl, (by decide)⟩ rfl
  · refine mS_steps (pc' := 9) (ls' := [.int p0]) (st' := [.int (122 : Int32), .int p0]) (mem' := mem) 2 rfl ?_
    refine mS_ic4T rfl (fun _ => ?_) (fun _ => ?_)
    · refine mS_steps (pc' := 17) (ls' := [.int p0]) (st' := [.int (0 : Int32)]) (mem' := mem) 1 rfl ?_
      exact mS_reti ⟨_, _, _, _, _, rfl, (by decide)⟩ rfl
    · refine mS_steps (pc' := 17) (ls' := [.int p0]) (st' := [.int (1 : Int32)]) (mem' := mem) 2 rfl ?_
      exact mS_reti ⟨_, _, _, _, _, rfl, (by decide)⟩ rfl
def f_X5_isDigit (p0 : Int32) : Int32 := (if p0 < (48 : Int32) then (0 : Int32) else (if (57 : Int32) < p0 then (0 : Int32) else (1 : Int32)))
set_option maxRecDepth 20000 in
set_option maxHeartbeats 2000000 in
theorem f_X5_isDigit_snd {fm : Value} {L : Nat} {xs : Nat → Int32} (p0 : Int32) (mem : mM) : mS fm L xs (fun r : Int32 => (.int r, mem)) pg_X5_isDigit 0 (m_entry [.int p0] 1) [] mem (some (f_X5_isDigit p0)) := by
  unfold f_X5_isDigit
  refine mS_steps (pc' := 0) (ls' := [.int p0]) (st' := []) (mem' := mem) 0 rfl ?_
  refine mS_steps (pc' := 3) (ls' := [.int p0]) (st' := [.int (48 : Int32), .int p0]) (mem' := mem) 2 rfl ?_
  refine mS_ic2T rfl (fun _ => ?_) (fun _ => ?_)
  · refine mS_steps (pc' := 17) (ls' := [.int p0]) (st' := [.int (0 : Int32)]) (mem' := mem) 1 rfl ?_
    exact mS_reti ⟨_, _, _, _, _, rfl, (by decide)⟩ rfl
  · refine mS_steps (pc' := 9) (ls' := [.int p0]) (st' := [.int (57 : Int32), .int p0]) (mem' := mem) 2 rfl ?_
    refine mS_ic4T rfl (fun _ => ?_) (fun _ => ?_)
    · refine mS_steps (pc' := 17) (ls' := [.int p0]) (st' := [.int (0 : Int32)]) (mem' := mem) 1 rfl ?_
      exact mS_reti ⟨_, _, _, _, _, rfl, (by decide)⟩ rfl
    · refine mS_steps (pc' := 17) (ls' := [.int p0]) (st' := [.int (1 : Int32)]) (mem' := mem) 2 rfl ?_
      exact mS_reti ⟨_, _, _, _, _, rfl, (by decide)⟩ rfl
def f_X5_tokenEnd_L26 (a2 : Int32) (a3 : Int32) : Nat → Int32 → Int32 → mX → Option Int32
  | 0, _, _, _ => none
  | n + 1, a4, a5, x => (if (2000 : Int32) ≤ a5 then (some a4) else ((f_X5_byteAt a4 x).bind fun q3 => (m_jn (fun _ => (if a3 = 0 then (some a4) else (if (f_X5_isDigit q3) = 0 then (some a4) else (f_X5_tokenEnd_L26 a2 a3 n (a4 + (1 : Int32)) (a5 + (1 : Int32)) x)))) (fun j4 => if a2 = 0 then (j4 ()) else (if (f_X5_isLetter q3) = 0 then (j4 ()) else (f_X5_tokenEnd_L26 a2 a3 n (a4 + (1 : Int32)) (a5 + (1 : Int32)) x))))))
def f_X5_tokenEnd (p1 : Int32) (x : mX) : Option Int32 := ((f_X5_byteAt p1 x).bind fun q1 => ((f_X5_byteAt p1 x).bind fun q2 => (f_X5_tokenEnd_L26 (f_X5_isLetter q1) (f_X5_isDigit q2) mF (p1 + (1 : Int32)) (0 : Int32) x)))
set_option maxRecDepth 20000 in
set_option maxHeartbeats 2000000 in
theorem f_X5_tokenEnd_L26_snd {fm : Value} {L : Nat} {xs : Nat → Int32} (a2 : Int32) (a3 : Int32) (x : mX) (y : mY) : ∀ (n : Nat) (a4 : Int32) (a5 : Int32), mS fm L xs (fun r : Int32 => (.int r, (mk x y))) pg_X5_tokenEnd 26 [.ref 1, mU, .int a2, .int a3, .int a4, .int a5, mU] [] (mk x y) (f_X5_tokenEnd_L26 a2 a3 n a4 a5 x) := by
  intro n
  induction n with
  | zero => intro a4 a5; exact mS_none
  | succ n ih =>
    intro a4 a5
    rw [f_X5_tokenEnd_L26]
    refine mS_steps (pc' := 31) (ls' := [.ref 1, mU, .int a2, .int a3, .int a4, .int a5, mU]) (st' := [.int (2000 : Int32), .int a5]) (mem' := (mk x y)) 2 rfl ?_
    refine mS_ic3 rfl (fun _ => ?_) (fun _ => ?_)
    · refine mS_steps (pc' := 77) (ls' := [.ref 1, mU, .int a2, .int a3, .int a4, .int a5, mU]) (st' := [.int a4]) (mem' := (mk x y)) 1 rfl ?_
      exact mS_reti ⟨_, _, _, _, _, rfl, rfl⟩ rfl
    · refine mS_steps (pc' := 37) (ls' := [.ref 1, mU, .int a2, .int a3, .int a4, .int a5, mU]) (st' := [.int a4, .ref 1]) (mem' := (mk x y)) 2 rfl ?_
      refine mS_bind (fun q3 hq3 => mS_call 21 2 [.ref 1, .int a4] [] rfl rfl rfl ⟨_, _, _, rfl, rfl⟩ (Nat.le_of_ble_eq_true rfl) (Nat.le_of_ble_eq_true rfl) hq3 (f_X5_byteAt_snd a4 x y) ?_)
      refine mS_steps (pc' := 43) (ls' := [.ref 1, mU, .int a2, .int a3, .int a4, .int a5, .int q3]) (st' := [.int a2]) (mem' := (mk x y)) 2 rfl ?_
      refine mS_jn (fun j => ∀ z : Unit, mS fm L xs (fun r : Int32 => (.int r, (mk x y))) pg_X5_tokenEnd 54 [.ref 1, mU, .int a2, .int a3, .int a4, .int a5, .int q3] [] (mk x y) (j z)) ?_ ?_
      · intro z
        refine mS_steps (pc' := 55) (ls' := [.ref 1, mU, .int a2, .int a3, .int a4, .int a5, .int q3]) (st' := [.int a3]) (mem' := (mk x y)) 1 rfl ?_
        refine mS_if0 rfl (fun _ => ?_) (fun _ => ?_)
        · refine mS_steps (pc' := 77) (ls' := [.ref 1, mU, .int a2, .int a3, .int a4, .int a5, .int q3]) (st' := [.int a4]) (mem' := (mk x y)) 1 rfl ?_
          exact mS_reti ⟨_, _, _, _, _, rfl, rfl⟩ rfl
        · refine mS_steps (pc' := 60) (ls' := [.ref 1, mU, .int a2, .int a3, .int a4, .int a5, .int q3]) (st' := [.int q3]) (mem' := (mk x y)) 1 rfl ?_
          refine mS_call (q := (f_X5_isDigit q3)) 28 1 [.int q3] [] rfl rfl rfl ⟨_, _, _, rfl, rfl⟩ (Nat.le_of_ble_eq_true rfl) (Nat.le_of_ble_eq_true rfl) rfl (f_X5_isDigit_snd q3 (mk x y)) ?_
          refine mS_steps (pc' := 63) (ls' := [.ref 1, mU, .int a2, .int a3, .int a4, .int a5, .int q3]) (st' := [.int (f_X5_isDigit q3)]) (mem' := (mk x y)) 0 rfl ?_
          refine mS_if0 rfl (fun _ => ?_) (fun _ => ?_)
          · refine mS_steps (pc' := 77) (ls' := [.ref 1, mU, .int a2, .int a3, .int a4, .int a5, .int q3]) (st' := [.int a4]) (mem' := (mk x y)) 1 rfl ?_
            exact mS_reti ⟨_, _, _, _, _, rfl, rfl⟩ rfl
          · refine mS_steps (pc' := 26) (ls' := [.ref 1, mU, .int a2, .int a3, .int (a4 + (1 : Int32)), .int (a5 + (1 : Int32)), .int q3]) (st' := []) (mem' := (mk x y)) 3 rfl ?_
            refine mS_forget [.ref 1, mU, .int a2, .int a3, .int (a4 + (1 : Int32)), .int (a5 + (1 : Int32)), mU] ⟨Or.inr rfl, Or.inl rfl, Or.inr rfl, Or.inr rfl, Or.inr rfl, Or.inr rfl, Or.inl rfl, trivial⟩ ?_
            exact ih (a4 + (1 : Int32)) (a5 + (1 : Int32))
      intro j4 hj4
      refine mS_if0 rfl (fun _ => ?_) (fun _ => ?_)
      · exact hj4 ()
      · refine mS_steps (pc' := 48) (ls' := [.ref 1, mU, .int a2, .int a3, .int a4, .int a5, .int q3]) (st' := [.int q3]) (mem' := (mk x y)) 1 rfl ?_
        refine mS_call (q := (f_X5_isLetter q3)) 27 1 [.int q3] [] rfl rfl rfl ⟨_, _, _, rfl, rfl⟩ (Nat.le_of_ble_eq_true rfl) (Nat.le_of_ble_eq_true rfl) rfl (f_X5_isLetter_snd q3 (mk x y)) ?_
        refine mS_steps (pc' := 51) (ls' := [.ref 1, mU, .int a2, .int a3, .int a4, .int a5, .int q3]) (st' := [.int (f_X5_isLetter q3)]) (mem' := (mk x y)) 0 rfl ?_
        refine mS_if1 rfl (fun _ => ?_) (fun _ => ?_)
        · exact hj4 ()
        · refine mS_steps (pc' := 26) (ls' := [.ref 1, mU, .int a2, .int a3, .int (a4 + (1 : Int32)), .int (a5 + (1 : Int32)), .int q3]) (st' := []) (mem' := (mk x y)) 3 rfl ?_
          refine mS_forget [.ref 1, mU, .int a2, .int a3, .int (a4 + (1 : Int32)), .int (a5 + (1 : Int32)), mU] ⟨Or.inr rfl, Or.inl rfl, Or.inr rfl, Or.inr rfl, Or.inr rfl, Or.inr rfl, Or.inl rfl, trivial⟩ ?_
          exact ih (a4 + (1 : Int32)) (a5 + (1 : Int32))
set_option maxRecDepth 20000 in
set_option maxHeartbeats 2000000 in
theorem f_X5_tokenEnd_snd {fm : Value} {L : Nat} {xs : Nat → Int32} (p1 : Int32) (x : mX) (y : mY) : mS fm L xs (fun r : Int32 => (.int r, (mk x y))) pg_X5_tokenEnd 0 (m_entry [.ref 1, .int p1] 7) [] (mk x y) ((f_X5_tokenEnd p1 x)) := by
  unfold f_X5_tokenEnd
  refine mS_steps (pc' := 0) (ls' := [.ref 1, .int p1, mU, mU, mU, mU, mU]) (st' := []) (mem' := (mk x y)) 0 rfl ?_
  refine mS_steps (pc' := 2) (ls' := [.ref 1, .int p1, mU, mU, mU, mU, mU]) (st' := [.int p1, .ref 1]) (mem' := (mk x y)) 2 rfl ?_
  refine mS_bind (fun q1 hq1 => mS_call 21 2 [.ref 1, .int p1] [] rfl rfl rfl ⟨_, _, _, rfl, rfl⟩ (Nat.le_of_ble_eq_true rfl) (Nat.le_of_ble_eq_true rfl) hq1 (f_X5_byteAt_snd p1 x y) ?_)
  refine mS_steps (pc' := 5) (ls' := [.ref 1, .int p1, mU, mU, mU, mU, mU]) (st' := [.int q1]) (mem' := (mk x y)) 0 rfl ?_
  refine mS_call (q := (f_X5_isLetter q1)) 27 1 [.int q1] [] rfl rfl rfl ⟨_, _, _, rfl, rfl⟩ (Nat.le_of_ble_eq_true rfl) (Nat.le_of_ble_eq_true rfl) rfl (f_X5_isLetter_snd q1 (mk x y)) ?_
  refine mS_steps (pc' := 11) (ls' := [.ref 1, .int p1, .int (f_X5_isLetter q1), mU, mU, mU, mU]) (st' := [.int p1, .ref 1]) (mem' := (mk x y)) 3 rfl ?_
  refine mS_bind (fun q2 hq2 => mS_call 21 2 [.ref 1, .int p1] [] rfl rfl rfl ⟨_, _, _, rfl, rfl⟩ (Nat.le_of_ble_eq_true rfl) (Nat.le_of_ble_eq_true rfl) hq2 (f_X5_byteAt_snd p1 x y) ?_)
  refine mS_steps (pc' := 14) (ls' := [.ref 1, .int p1, .int (f_X5_isLetter q1), mU, mU, mU, mU]) (st' := [.int q2]) (mem' := (mk x y)) 0 rfl ?_
  refine mS_call (q := (f_X5_isDigit q2)) 28 1 [.int q2] [] rfl rfl rfl ⟨_, _, _, rfl, rfl⟩ (Nat.le_of_ble_eq_true rfl) (Nat.le_of_ble_eq_true rfl) rfl (f_X5_isDigit_snd q2 (mk x y)) ?_
  refine mS_steps (pc' := 26) (ls' := [.ref 1, .int p1, .int (f_X5_isLetter q1), .int (f_X5_isDigit q2), .int (p1 + (1 : Int32)), .int (0 : Int32), mU]) (st' := []) (mem' := (mk x y)) 7 rfl ?_
  refine mS_forget [.ref 1, mU, .int (f_X5_isLetter q1), .int (f_X5_isDigit q2), .int (p1 + (1 : Int32)), .int (0 : Int32), mU] ⟨Or.inr rfl, Or.inl rfl, Or.inr rfl, Or.inr rfl, Or.inr rfl, Or.inr rfl, Or.inl rfl, trivial⟩ ?_
  refine f_X5_tokenEnd_L26_snd (f_X5_isLetter q1) (f_X5_isDigit q2) x y mF (p1 + (1 : Int32)) (0 : Int32)
def f_J0_isLatin1_aae02 (r0 : Nat) : Option Int32 := (if (1 : Int32) = 0 then (some (0 : Int32)) else (if r0 < 9 then (if (0 : Int32) = 0 then (some (1 : Int32)) else (some (0 : Int32))) else none))
set_option maxRecDepth 20000 in
set_option maxHeartbeats 2000000 in
theorem f_J0_isLatin1_aae02_snd {fm : Value} {L : Nat} {xs : Nat → Int32} (r0 : Nat) (mem : mM) : mS fm L xs (fun r : Int32 => (.int r, mem)) pg_J0_isLatin1_aae02 0 (m_entry [.ref (mBIG + r0)] 1) [] mem ((f_J0_isLatin1_aae02 r0)) := by
  unfold f_J0_isLatin1_aae02
  refine mS_steps (pc' := 0) (ls' := [.ref (mBIG + r0)]) (st' := []) (mem' := mem) 0 rfl ?_
  refine mS_steps (pc' := 3) (ls' := [.ref (mBIG + r0)]) (st' := [.int (1 : Int32)]) (mem' := mem) 1 rfl ?_
  refine mS_if0 rfl (fun _ => ?_) (fun _ => ?_)
  · refine mS_steps (pc' := 18) (ls' := [.ref (mBIG + r0)]) (st' := [.int (0 : Int32)]) (mem' := mem) 1 rfl ?_
    exact mS_reti ⟨_, _, _, _, _, rfl, (by decide)⟩ rfl
  · refine mS_steps (pc' := 7) (ls' := [.ref (mBIG + r0)]) (st' := [.ref (mBIG + r0)]) (mem' := mem) 1 rfl ?_
    refine mS_s34 rfl (fun _ => ?_)
    refine mS_if1 rfl (fun _ => ?_) (fun _ => ?_)
    · refine mS_steps (pc' := 18) (ls' := [.ref (mBIG + r0)]) (st' := [.int (1 : Int32)]) (mem' := mem) 2 rfl ?_
      exact mS_reti ⟨_, _, _, _, _, rfl, (by decide)⟩ rfl
    · refine mS_steps (pc' := 18) (ls' := [.ref (mBIG + r0)]) (st' := [.int (0 : Int32)]) (mem' := mem) 1 rfl ?_
      exact mS_reti ⟨_, _, _, _, _, rfl, (by decide)⟩ rfl
def f_J1_charAt_3b067 (r0 : Nat) (p1 : Int32) : Option Int32 := (if r0 < 9 then (if ¬ p1 < 0 ∧ p1 < (m_sl r0) then (if r0 < 9 ∧ m_in p1 (m_str.getD r0 []).length = true then (if m_nr 3 ((((m_sc r0 p1) &&& (255 : Int32)).toUInt32 % 65536).toInt32) = true then (some ((((m_sc r0 p1) &&& (255 : Int32)).toUInt32 % 65536).toInt32)) else none) else none) else none) else none)
set_option maxRecDepth 20000 in
set_option maxHeartbeats 2000000 in
theorem f_J1_charAt_3b067_snd {fm : Value} {L : Nat} {xs : Nat → Int32} (hfm : fm = .null ∨ fm = .ref (mBIG + 200)) (r0 : Nat) (p1 : Int32) (mem : mM) : mS fm L xs (fun r : Int32 => (.int r, mem)) pg_J1_charAt_3b067 0 (m_entry [.ref (mBIG + r0 + 50), .int p1] 2) [] mem ((f_J1_charAt_3b067 r0 p1)) := by
  unfold f_J1_charAt_3b067
  refine mS_steps (pc' := 0) (ls' := [.ref (mBIG + r0 + 50), .int p1]) (st' := []) (mem' := mem) 0 rfl ?_
  refine mS_steps (pc' := 2) (ls' := [.ref (mBIG + r0 + 50), .int p1]) (st' := [.ref (mBIG + r0 + 50), .int p1]) (mem' := mem) 2 rfl ?_
  refine mS_s38 rfl (fun _ => ?_)
  refine mS_guard (fun hz => ?_)
  refine mS_call (q := ()) 32 2 [.int p1, .int (m_sl r0)] [] rfl rfl rfl ⟨_, _, _, rfl, rfl⟩ (Nat.le_of_ble_eq_true rfl) (Nat.le_of_ble_eq_true rfl) rfl (f_chk_snd hfm hz mem) ?_
  refine mS_steps (pc' := 8) (ls' := [.ref (mBIG + r0 + 50), .int p1]) (st' := [.int p1, .ref (mBIG + r0 + 50)]) (mem' := mem) 2 rfl ?_
  refine mS_s39 rfl (fun _ => ?_)
  refine mS_steps (pc' := 14) (ls' := [.ref (mBIG + r0 + 50), .int p1]) (st' := [.int ((((m_sc r0 p1) &&& (255 : Int32)).toUInt32 % 65536).toInt32)]) (mem' := mem) 3 rfl ?_
  refine mS_guard (fun hz => ?_)
  exact mS_reti ⟨_, _, _, _, _, rfl, hz⟩ rfl
def f_J0_charAt_5068e (r0 : Nat) (p1 : Int32) : Option Int32 := (if r0 < 9 then ((f_J0_isLatin1_aae02 r0).bind fun q1 => (if q1 = 0 then none else (if r0 < 9 then ((f_J1_charAt_3b067 r0 p1).bind fun q2 => (if m_nr 3 q2 = true then (some q2) else none)) else none))) else none)
set_option maxRecDepth 20000 in
set_option maxHeartbeats 2000000 in
theorem f_J0_charAt_5068e_snd {fm : Value} {L : Nat} {xs : Nat → Int32} (hfm : fm = .null ∨ fm = .ref (mBIG + 200)) (r0 : Nat) (p1 : Int32) (mem : mM) : mS fm L xs (fun r : Int32 => (.int r, mem)) pg_J0_charAt_5068e 0 (m_entry [.ref (mBIG + r0), .int p1] 2) [] mem ((f_J0_charAt_5068e r0 p1)) := by
  unfold f_J0_charAt_5068e
  refine mS_steps (pc' := 0) (ls' := [.ref (mBIG + r0), .int p1]) (st' := []) (mem' := mem) 0 rfl ?_
  refine mS_steps (pc' := 1) (ls' := [.ref (mBIG + r0), .int p1]) (st' := [.ref (mBIG + r0)]) (mem' := mem) 1 rfl ?_
  refine mS_guard (fun hj => ?_)
  refine mS_bind (fun q1 hq1 => mS_call 30 1 [.ref (mBIG + r0)] [] rfl rfl rfl ⟨_, _, _, rfl, (m_rcvS hj)⟩ (Nat.le_of_ble_eq_true rfl) (Nat.le_of_ble_eq_true rfl) hq1 (f_J0_isLatin1_aae02_snd r0 mem) ?_)
  refine mS_steps (pc' := 4) (ls' := [.ref (mBIG + r0), .int p1]) (st' := [.int q1]) (mem' := mem) 0 rfl ?_
  refine mS_if0 rfl (fun _ => ?_) (fun _ => ?_)
  · exact mS_none
  · refine mS_steps (pc' := 8) (ls' := [.ref (mBIG + r0), .int p1]) (st' := [.ref (mBIG + r0)]) (mem' := mem) 1 rfl ?_
    refine mS_s33 rfl (fun _ => ?_)
    refine mS_steps (pc' := 12) (ls' := [.ref (mBIG + r0), .int p1]) (st' := [.int p1, .ref (mBIG + r0 + 50)]) (mem' := mem) 1 rfl ?_
    refine mS_bind (fun q2 hq2 => mS_call 33 2 [.ref (mBIG + r0 + 50), .int p1] [] rfl rfl rfl ⟨_, _, _, rfl, rfl⟩ (Nat.le_of_ble_eq_true rfl) (Nat.le_of_ble_eq_true rfl) hq2 (f_J1_charAt_3b067_snd hfm r0 p1 mem) ?_)
    refine mS_steps (pc' := 15) (ls' := [.ref (mBIG + r0), .int p1]) (st' := [.int q2]) (mem' := mem) 0 rfl ?_
    refine mS_guard (fun hz => ?_)
    exact mS_reti ⟨_, _, _, _, _, rfl, hz⟩ rfl
def f_X5_spells_L15 (r1 : Nat) (a1 : Int32) : Nat → Int32 → mX → Option Int32
  | 0, _, _ => none
  | n + 1, a4, x => (if r1 < 9 then ((f_J0_length_8abf5 r1).bind fun q2 => (if q2 ≤ a4 then (some (1 : Int32)) else ((f_X5_byteAt (a1 + a4) x).bind fun q3 => (if r1 < 9 then ((f_J0_charAt_5068e r1 a4).bind fun q4 => (if q3 = q4 then (f_X5_spells_L15 r1 a1 n (a4 + (1 : Int32)) x) else (some (0 : Int32)))) else none)))) else none)
def f_X5_spells (p1 : Int32) (p2 : Int32) (r1 : Nat) (x : mX) : Option Int32 := (if r1 < 9 then ((f_J0_length_8abf5 r1).bind fun q1 => (if (p2 - p1) = q1 then (f_X5_spells_L15 r1 p1 mF (0 : Int32) x) else (some (0 : Int32)))) else none)
set_option maxRecDepth 20000 in
set_option maxHeartbeats 2000000 in
theorem f_X5_spells_L15_snd {fm : Value} {L : Nat} {xs : Nat → Int32} (hfm : fm = .null ∨ fm = .ref (mBIG + 200)) (r1 : Nat) (a1 : Int32) (x : mX) (y : mY) : ∀ (n : Nat) (a4 : Int32), mS fm L xs (fun r : Int32 => (.int r, (mk x y))) pg_X5_spells 15 [.ref 1, .int a1, mU, .ref (mBIG + r1), .int a4] [] (mk x y) (f_X5_spells_L15 r1 a1 n a4 x) := by
  intro n
  induction n with
  | zero => intro a4; exact mS_none
  | succ n ih =>
    intro a4
    rw [f_X5_spells_L15]
    refine mS_steps (pc' := 18) (ls' := [.ref 1, .int a1, mU, .ref (mBIG + r1), .int a4]) (st' := [.ref (mBIG + r1), .int a4]) (mem' := (mk x y)) 2 rfl ?_
    refine mS_guard (fun hj => ?_)
    refine mS_bind (fun q2 hq2 => mS_call 25 1 [.ref (mBIG + r1)] [.int a4] rfl rfl rfl ⟨_, _, _, rfl, (m_rcvS hj)⟩ (Nat.le_of_ble_eq_true rfl) (Nat.le_of_ble_eq_true rfl) hq2 (f_J0_length_8abf5_snd r1 (mk x y)) ?_)
    refine mS_steps (pc' := 21) (ls' := [.ref 1, .int a1, mU, .ref (mBIG + r1), .int a4]) (st' := [.int q2, .int a4]) (mem' := (mk x y)) 0 rfl ?_
    refine mS_ic3 rfl (fun _ => ?_) (fun _ => ?_)
    · refine mS_steps (pc' := 50) (ls' := [.ref 1, .int a1, mU, .ref (mBIG + r1), .int a4]) (st' := [.int (1 : Int32)]) (mem' := (mk x y)) 1 rfl ?_
      exact mS_reti ⟨_, _, _, _, _, rfl, (by decide)⟩ rfl
    · refine mS_steps (pc' := 29) (ls' := [.ref 1, .int a1, mU, .ref (mBIG + r1), .int a4]) (st' := [.int (a1 + a4), .ref 1]) (mem' := (mk x y)) 4 rfl ?_
      refine mS_bind (fun q3 hq3 => mS_call 21 2 [.ref 1, .int (a1 + a4)] [] rfl rfl rfl ⟨_, _, _, rfl, rfl⟩ (Nat.le_of_ble_eq_true rfl) (Nat.le_of_ble_eq_true rfl) hq3 (f_X5_byteAt_snd (a1 + a4) x y) ?_)
      refine mS_steps (pc' := 35) (ls' := [.ref 1, .int a1, mU, .ref (mBIG + r1), .int a4]) (st' := [.int a4, .ref (mBIG + r1), .int q3]) (mem' := (mk x y)) 2 rfl ?_
      refine mS_guard (fun hj => ?_)
      refine mS_bind (fun q4 hq4 => mS_call 34 2 [.ref (mBIG + r1), .int a4] [.int q3] rfl rfl rfl ⟨_, _, _, rfl, (m_rcvS hj)⟩ (Nat.le_of_ble_eq_true rfl) (Nat.le_of_ble_eq_true rfl) hq4 (f_J0_charAt_5068e_snd hfm r1 a4 (mk x y)) ?_)
      refine mS_steps (pc' := 38) (ls' := [.ref 1, .int a1, mU, .ref (mBIG + r1), .int a4]) (st' := [.int q4, .int q3]) (mem' := (mk x y)) 0 rfl ?_
      refine mS_ic0 rfl (fun _ => ?_) (fun _ => ?_)
      · refine mS_steps (pc' := 15) (ls' := [.ref 1, .int a1, mU, .ref (mBIG + r1), .int (a4 + (1 : Int32))]) (st' := []) (mem' := (mk x y)) 2 rfl ?_
        exact ih (a4 + (1 : Int32))
      · refine mS_steps (pc' := 42) (ls' := [.ref 1, .int a1, mU, .ref (mBIG + r1), .int a4]) (st' := [.int (0 : Int32)]) (mem' := (mk x y)) 1 rfl ?_
        exact mS_reti ⟨_, _, _, _, _, rfl, (by decide)⟩ rfl
set_option maxRecDepth 20000 in
set_option maxHeartbeats 2000000 in
theorem f_X5_spells_snd {fm : Value} {L : Nat} {xs : Nat → Int32} (hfm : fm = .null ∨ fm = .ref (mBIG + 200)) (p1 : Int32) (p2 : Int32) (r1 : Nat) (x : mX) (y : mY) : mS fm L xs (fun r : Int32 => (.int r, (mk x y))) pg_X5_spells 0 (m_entry [.ref 1, .int p1, .int p2, .ref (mBIG + r1)] 5) [] (mk x y) ((f_X5_spells p1 p2 r1 x)) := by
  unfold f_X5_spells
  refine mS_steps (pc' := 0) (ls' := [.ref 1, .int p1, .int p2, .ref (mBIG + r1), mU]) (st' := []) (mem' := (mk x y)) 0 rfl ?_
  refine mS_steps (pc' := 4) (ls' := [.ref 1, .int p1, .int p2, .ref (mBIG + r1), mU]) (st' := [.ref (mBIG + r1), .int (p2 - p1)]) (mem' := (mk x y)) 4 rfl ?_
  refine mS_guard (fun hj => ?_)
  refine mS_bind (fun q1 hq1 => mS_call 25 1 [.ref (mBIG + r1)] [.int (p2 - p1)] rfl rfl rfl ⟨_, _, _, rfl, (m_rcvS hj)⟩ (Nat.le_of_ble_eq_true rfl) (Nat.le_of_ble_eq_true rfl) hq1 (f_J0_length_8abf5_snd r1 (mk x y)) ?_)
  refine mS_steps (pc' := 7) (ls' := [.ref 1, .int p1, .int p2, .ref (mBIG + r1), mU]) (st' := [.int q1, .int (p2 - p1)]) (mem' := (mk x y)) 0 rfl ?_
  refine mS_ic0 rfl (fun _ => ?_) (fun _ => ?_)
  · refine mS_steps (pc' := 15) (ls' := [.ref 1, .int p1, .int p2, .ref (mBIG + r1), .int (0 : Int32)]) (st' := []) (mem' := (mk x y)) 2 rfl ?_
    refine mS_forget [.ref 1, .int p1, mU, .ref (mBIG + r1), .int (0 : Int32)] ⟨Or.inr rfl, Or.inr rfl, Or.inl rfl, Or.inr rfl, Or.inr rfl, trivial⟩ ?_
    refine f_X5_spells_L15_snd hfm r1 p1 x y mF (0 : Int32)
  · refine mS_steps (pc' := 11) (ls' := [.ref 1, .int p1, .int p2, .ref (mBIG + r1), mU]) (st' := [.int (0 : Int32)]) (mem' := (mk x y)) 1 rfl ?_
    exact mS_reti ⟨_, _, _, _, _, rfl, (by decide)⟩ rfl
def f_X5_sortOf (p1 : Int32) (p2 : Int32) (x : mX) : Option Int32 := ((f_X5_byteAt p1 x).bind fun q1 => (if q1 = (59 : Int32) then (some (59 : Int32)) else (if (f_X5_isDigit q1) = 0 then (if (f_X5_isLetter q1) = 0 then (some (63 : Int32)) else (if (p2 - p1) ≤ (8 : Int32) then ((f_X5_spells p1 p2 1 x).bind fun q2 => (m_jn (fun _ => (if (1 : Int32) = 0 then (some (110 : Int32)) else (some q1))) (fun j3 => if q2 = 0 then ((f_X5_spells p1 p2 2 x).bind fun q4 => (if q4 = 0 then ((f_X5_spells p1 p2 3 x).bind fun q5 => (if q5 = 0 then ((f_X5_spells p1 p2 4 x).bind fun q6 => (if q6 = 0 then ((f_X5_spells p1 p2 5 x).bind fun q7 => (if q7 = 0 then (if (0 : Int32) = 0 then (some (110 : Int32)) else (some q1)) else (j3 ()))) else (j3 ()))) else (j3 ()))) else (j3 ()))) else (j3 ())))) else (some (63 : Int32)))) else (if (4 : Int32) < (p2 - p1) then (some (63 : Int32)) else (some (105 : Int32))))))
set_option maxRecDepth 20000 in
set_option maxHeartbeats 2000000 in
theorem f_X5_sortOf_snd {fm : Value} {L : Nat} {xs : Nat → Int32} (hfm : fm = .null ∨ fm = .ref (mBIG + 200)) (p1 : Int32) (p2 : Int32) (x : mX) (y : mY) : mS fm L xs (fun r : Int32 => (.int r, (mk x y))) pg_X5_sortOf 0 (m_entry [.ref 1, .int p1, .int p2] 5) [] (mk x y) ((f_X5_sortOf p1 p2 x)) := by
  unfold f_X5_sortOf
  refine mS_steps (pc' := 0) (ls' := [.ref 1, .int p1, .int p2, mU, mU]) (st' := []) (mem' := (mk x y)) 0 rfl ?_
  refine mS_steps (pc' := 2) (ls' := [.ref 1, .int p1, .int p2, mU, mU]) (st' := [.int p1, .ref 1]) (mem' := (mk x y)) 2 rfl ?_
  refine mS_bind (fun q1 hq1 => mS_call 21 2 [.ref 1, .int p1] [] rfl rfl rfl ⟨_, _, _, rfl, rfl⟩ (Nat.le_of_ble_eq_true rfl) (Nat.le_of_ble_eq_true rfl) hq1 (f_X5_byteAt_snd p1 x y) ?_)
  refine mS_steps (pc' := 9) (ls' := [.ref 1, .int p1, .int p2, .int q1, mU]) (st' := [.int (59 : Int32), .int q1]) (mem' := (mk x y)) 3 rfl ?_
  refine mS_ic1 rfl (fun _ => ?_) (fun _ => ?_)
  · refine mS_steps (pc' := 14) (ls' := [.ref 1, .int p1, .int p2, .int q1, mU]) (st' := [.int (59 : Int32)]) (mem' := (mk x y)) 1 rfl ?_
    exact mS_reti ⟨_, _, _, _, _, rfl, rfl⟩ rfl
  · refine mS_steps (pc' := 16) (ls' := [.ref 1, .int p1, .int p2, .int q1, mU]) (st' := [.int q1]) (mem' := (mk x y)) 1 rfl ?_
    refine mS_call (q := (f_X5_isDigit q1)) 28 1 [.int q1] [] rfl rfl rfl ⟨_, _, _, rfl, rfl⟩ (Nat.le_of_ble_eq_true rfl) (Nat.le_of_ble_eq_true rfl) rfl (f_X5_isDigit_snd q1 (mk x y)) ?_
    refine mS_steps (pc' := 19) (ls' := [.ref 1, .int p1, .int p2, .int q1, mU]) (st' := [.int (f_X5_isDigit q1)]) (mem' := (mk x y)) 0 rfl ?_
    refine mS_if0 rfl (fun _ => ?_) (fun _ => ?_)
    · refine mS_steps (pc' := 38) (ls' := [.ref 1, .int p1, .int p2, .int q1, mU]) (st' := [.int q1]) (mem' := (mk x y)) 1 rfl ?_
      refine mS_call (q := (f_X5_isLetter q1)) 27 1 [.int q1] [] rfl rfl rfl ⟨_, _, _, rfl, rfl⟩ (Nat.le_of_ble_eq_true rfl) (Nat.le_of_ble_eq_true rfl) rfl (f_X5_isLetter_snd q1 (mk x y)) ?_
      refine mS_steps (pc' := 41) (ls' := [.ref 1, .int p1, .int p2, .int q1, mU]) (st' := [.int (f_X5_isLetter q1)]) (mem' := (mk x y)) 0 rfl ?_
      refine mS_if0 rfl (fun _ => ?_) (fun _ => ?_)
      · refine mS_steps (pc' := 54) (ls' := [.ref 1, .int p1, .int p2, .int q1, mU]) (st' := [.int (63 : Int32)]) (mem' := (mk x y)) 1 rfl ?_
        exact mS_reti ⟨_, _, _, _, _, rfl, rfl⟩ rfl
      · refine mS_steps (pc' := 49) (ls' := [.ref 1, .int p1, .int p2, .int q1, mU]) (st' := [.int (8 : Int32), .int (p2 - p1)]) (mem' := (mk x y)) 4 rfl ?_
        refine mS_ic5 rfl (fun _ => ?_) (fun _ => ?_)
        · refine mS_steps (pc' := 60) (ls' := [.ref 1, .int p1, .int p2, .int q1, mU]) (st' := [.ref (mBIG + 1), .int p2, .int p1, .ref 1]) (mem' := (mk x y)) 4 rfl ?_
          refine mS_bind (fun q2 hq2 => mS_call 35 4 [.ref 1, .int p1, .int p2, .ref (mBIG + 1)] [] rfl rfl rfl ⟨_, _, _, rfl, rfl⟩ (Nat.le_of_ble_eq_true rfl) (Nat.le_of_ble_eq_true rfl) hq2 (f_X5_spells_snd hfm p1 p2 1 x y) ?_)
          refine mS_steps (pc' := 63) (ls' := [.ref 1, .int p1, .int p2, .int q1, mU]) (st' := [.int q2]) (mem' := (mk x y)) 0 rfl ?_
          refine mS_jn (fun j => ∀ z : Unit, mS fm L xs (fun r : Int32 => (.int r, (mk x y))) pg_X5_sortOf 110 [mU, mU, mU, .int q1, mU] [] (mk x y) (j z)) ?_ ?_
          · intro z
            refine mS_steps (pc' := 119) (ls' := [mU, mU, mU, .int q1, .int (1 : Int32)]) (st' := [.int (1 : Int32)]) (mem' := (mk x y)) 4 rfl ?_
            refine mS_if0 rfl (fun _ => ?_) (fun _ => ?_)
            · refine mS_steps (pc' := 128) (ls' := [mU, mU, mU, .int q1, .int (1 : Int32)]) (st' := [.int (110 : Int32)]) (mem' := (mk x y)) 1 rfl ?_
              exact mS_reti ⟨_, _, _, _, _, rfl, rfl⟩ rfl
            · refine mS_steps (pc' := 128) (ls' := [mU, mU, mU, .int q1, .int (1 : Int32)]) (st' := [.int q1]) (mem' := (mk x y)) 2 rfl ?_
              exact mS_reti ⟨_, _, _, _, _, rfl, rfl⟩ rfl
          intro j3 hj3
          refine mS_if1 rfl (fun _ => ?_) (fun _ => ?_)
          · refine mS_steps (pc' := 71) (ls' := [.ref 1, .int p1, .int p2, .int q1, mU]) (st' := [.ref (mBIG + 2), .int p2, .int p1, .ref 1]) (mem' := (mk x y)) 4 rfl ?_
            refine mS_bind (fun q4 hq4 => mS_call 35 4 [.ref 1, .int p1, .int p2, .ref (mBIG + 2)] [] rfl rfl rfl ⟨_, _, _, rfl, rfl⟩ (Nat.le_of_ble_eq_true rfl) (Nat.le_of_ble_eq_true rfl) hq4 (f_X5_spells_snd hfm p1 p2 2 x y) ?_)
            refine mS_steps (pc' := 74) (ls' := [.ref 1, .int p1, .int p2, .int q1, mU]) (st' := [.int q4]) (mem' := (mk x y)) 0 rfl ?_
            refine mS_if1 rfl (fun _ => ?_) (fun _ => ?_)
            · refine mS_steps (pc' := 82) (ls' := [.ref 1, .int p1, .int p2, .int q1, mU]) (st' := [.ref (mBIG + 3), .int p2, .int p1, .ref 1]) (mem' := (mk x y)) 4 rfl ?_
              refine mS_bind (fun q5 hq5 => mS_call 35 4 [.ref 1, .int p1, .int p2, .ref (mBIG + 3)] [] rfl rfl rfl ⟨_, _, _, rfl, rfl⟩ (Nat.le_of_ble_eq_true rfl) (Nat.le_of_ble_eq_true rfl) hq5 (f_X5_spells_snd hfm p1 p2 3 x y) ?_)
              refine mS_steps (pc' := 85) (ls' := [.ref 1, .int p1, .int p2, .int q1, mU]) (st' := [.int q5]) (mem' := (mk x y)) 0 rfl ?_
              refine mS_if1 rfl (fun _ => ?_) (fun _ => ?_)
              · refine mS_steps (pc' := 93) (ls' := [.ref 1, .int p1, .int p2, .int q1, mU]) (st' := [.ref (mBIG + 4), .int p2, .int p1, .ref 1]) (mem' := (mk x y)) 4 rfl ?_
                refine mS_bind (fun q6 hq6 => mS_call 35 4 [.ref 1, .int p1, .int p2, .ref (mBIG + 4)] [] rfl rfl rfl ⟨_, _, _, rfl, rfl⟩ (Nat.le_of_ble_eq_true rfl) (Nat.le_of_ble_eq_true rfl) hq6 (f_X5_spells_snd hfm p1 p2 4 x y) ?_)
                refine mS_steps (pc' := 96) (ls' := [.ref 1, .int p1, .int p2, .int q1, mU]) (st' := [.int q6]) (mem' := (mk x y)) 0 rfl ?_
                refine mS_if1 rfl (fun _ => ?_) (fun _ => ?_)
                · refine mS_steps (pc' := 104) (ls' := [.ref 1, .int p1, .int p2, .int q1, mU]) (st' := [.ref (mBIG + 5), .int p2, .int p1, .ref 1]) (mem' := (mk x y)) 4 rfl ?_
                  refine mS_bind (fun q7 hq7 => mS_call 35 4 [.ref 1, .int p1, .int p2, .ref (mBIG + 5)] [] rfl rfl rfl ⟨_, _, _, rfl, rfl⟩ (Nat.le_of_ble_eq_true rfl) (Nat.le_of_ble_eq_true rfl) hq7 (f_X5_spells_snd hfm p1 p2 5 x y) ?_)
                  refine mS_steps (pc' := 107) (ls' := [.ref 1, .int p1, .int p2, .int q1, mU]) (st' := [.int q7]) (mem' := (mk x y)) 0 rfl ?_
                  refine mS_if0 rfl (fun _ => ?_) (fun _ => ?_)
                  · refine mS_steps (pc' := 119) (ls' := [.ref 1, .int p1, .int p2, .int q1, .int (0 : Int32)]) (st' := [.int (0 : Int32)]) (mem' := (mk x y)) 3 rfl ?_
                    refine mS_if0 rfl (fun _ => ?_) (fun _ => ?_)
                    · refine mS_steps (pc' := 128) (ls' := [.ref 1, .int p1, .int p2, .int q1, .int (0 : Int32)]) (st' := [.int (110 : Int32)]) (mem' := (mk x y)) 1 rfl ?_
                      exact mS_reti ⟨_, _, _, _, _, rfl, rfl⟩ rfl
                    · refine mS_steps (pc' := 128) (ls' := [.ref 1, .int p1, .int p2, .int q1, .int (0 : Int32)]) (st' := [.int q1]) (mem' := (mk x y)) 2 rfl ?_
                      exact mS_reti ⟨_, _, _, _, _, rfl, rfl⟩ rfl
                  · refine mS_forget [mU, mU, mU, .int q1, mU] ⟨Or.inl rfl, Or.inl rfl, Or.inl rfl, Or.inr rfl, Or.inl rfl, trivial⟩ ?_
                    exact hj3 ()
                · refine mS_forget [mU, mU, mU, .int q1, mU] ⟨Or.inl rfl, Or.inl rfl, Or.inl rfl, Or.inr rfl, Or.inl rfl, trivial⟩ ?_
                  exact hj3 ()
              · refine mS_forget [mU, mU, mU, .int q1, mU] ⟨Or.inl rfl, Or.inl rfl, Or.inl rfl, Or.inr rfl, Or.inl rfl, trivial⟩ ?_
                exact hj3 ()
            · refine mS_forget [mU, mU, mU, .int q1, mU] ⟨Or.inl rfl, Or.inl rfl, Or.inl rfl, Or.inr rfl, Or.inl rfl, trivial⟩ ?_
              exact hj3 ()
          · refine mS_forget [mU, mU, mU, .int q1, mU] ⟨Or.inl rfl, Or.inl rfl, Or.inl rfl, Or.inr rfl, Or.inl rfl, trivial⟩ ?_
            exact hj3 ()
        · refine mS_steps (pc' := 54) (ls' := [.ref 1, .int p1, .int p2, .int q1, mU]) (st' := [.int (63 : Int32)]) (mem' := (mk x y)) 1 rfl ?_
          exact mS_reti ⟨_, _, _, _, _, rfl, rfl⟩ rfl
    · refine mS_steps (pc' := 26) (ls' := [.ref 1, .int p1, .int p2, .int q1, mU]) (st' := [.int (4 : Int32), .int (p2 - p1)]) (mem' := (mk x y)) 4 rfl ?_
      refine mS_ic4 rfl (fun _ => ?_) (fun _ => ?_)
      · refine mS_steps (pc' := 36) (ls' := [.ref 1, .int p1, .int p2, .int q1, mU]) (st' := [.int (63 : Int32)]) (mem' := (mk x y)) 1 rfl ?_
        exact mS_reti ⟨_, _, _, _, _, rfl, rfl⟩ rfl
      · refine mS_steps (pc' := 36) (ls' := [.ref 1, .int p1, .int p2, .int q1, mU]) (st' := [.int (105 : Int32)]) (mem' := (mk x y)) 2 rfl ?_
        exact mS_reti ⟨_, _, _, _, _, rfl, rfl⟩ rfl
def f_X5_shapeOf (p0 : Int32) : Option Nat := (if p0 = (100 : Int32) then (some 8) else (if p0 = (108 : Int32) then (some 7) else (if p0 = (111 : Int32) then (some 6) else (if p0 = (112 : Int32) then (some 6) else (if p0 = (114 : Int32) then (some 6) else (some 0))))))
set_option maxRecDepth 20000 in
set_option maxHeartbeats 2000000 in
theorem f_X5_shapeOf_snd {fm : Value} {L : Nat} {xs : Nat → Int32} (p0 : Int32) (mem : mM) : mS fm L xs (fun r : Nat => (.ref (mBIG + r), mem)) pg_X5_shapeOf 0 (m_entry [.int p0] 1) [] mem ((f_X5_shapeOf p0)) := by
  unfold f_X5_shapeOf
  refine mS_steps (pc' := 0) (ls' := [.int p0]) (st' := []) (mem' := mem) 0 rfl ?_
  refine mS_steps (pc' := 1) (ls' := [.int p0]) (st' := [.int p0]) (mem' := mem) 1 rfl ?_
  refine mS_ite (fun hc => ?_) (fun hn1 => ?_)
  · refine mS_tsw (i := 0) (t := 82) rfl (by rw [hc]; decide) rfl ?_
    refine mS_steps (pc' := 84) (ls' := [.int p0]) (st' := [.ref (mBIG + 8)]) (mem' := mem) 1 rfl ?_
    exact mS_reta ⟨_, _, _, _, _, rfl⟩ rfl
  refine mS_ite (fun hc => ?_) (fun hn2 => ?_)
  · refine mS_tsw (i := 8) (t := 79) rfl (by rw [hc]; decide) rfl ?_
    refine mS_steps (pc' := 81) (ls' := [.int p0]) (st' := [.ref (mBIG + 7)]) (mem' := mem) 1 rfl ?_
    exact mS_reta ⟨_, _, _, _, _, rfl⟩ rfl
  refine mS_ite (fun hc => ?_) (fun hn3 => ?_)
  · refine mS_tsw (i := 11) (t := 76) rfl (by rw [hc]; decide) rfl ?_
    refine mS_steps (pc' := 78) (ls' := [.int p0]) (st' := [.ref (mBIG + 6)]) (mem' := mem) 1 rfl ?_
    exact mS_reta ⟨_, _, _, _, _, rfl⟩ rfl
  refine mS_ite (fun hc => ?_) (fun hn4 => ?_)
  · refine mS_tsw (i := 12) (t := 76) rfl (by rw [hc]; decide) rfl ?_
    refine mS_steps (pc' := 78) (ls' := [.int p0]) (st' := [.ref (mBIG + 6)]) (mem' := mem) 1 rfl ?_
    exact mS_reta ⟨_, _, _, _, _, rfl⟩ rfl
  refine mS_ite (fun hc => ?_) (fun hn5 => ?_)
  · refine mS_tsw (i := 14) (t := 76) rfl (by rw [hc]; decide) rfl ?_
    refine mS_steps (pc' := 78) (ls' := [.int p0]) (st' := [.ref (mBIG + 6)]) (mem' := mem) 1 rfl ?_
    exact mS_reta ⟨_, _, _, _, _, rfl⟩ rfl
  refine mS_tswd rfl (fun i hi => ?_) ?_
  · match i, hi with
    | 0, _ => exact Or.inl (m_nlit hn1 (by decide))
    | 1, _ => exact Or.inr rfl
    | 2, _ => exact Or.inr rfl
    | 3, _ => exact Or.inr rfl
    | 4, _ => exact Or.inr rfl
    | 5, _ => exact Or.inr rfl
    | 6, _ => exact Or.inr rfl
    | 7, _ => exact Or.inr rfl
    | 8, _ => exact Or.inl (m_nlit hn2 (by decide))
    | 9, _ => exact Or.inr rfl
    | 10, _ => exact Or.inr rfl
    | 11, _ => exact Or.inl (m_nlit hn3 (by decide))
    | 12, _ => exact Or.inl (m_nlit hn4 (by decide))
    | 13, _ => exact Or.inr rfl
    | 14, _ => exact Or.inl (m_nlit hn5 (by decide))
    | n + 15, hi => exact absurd hi (by simp)
  refine mS_steps (pc' := 87) (ls' := [.int p0]) (st' := [.ref (mBIG + 0)]) (mem' := mem) 1 rfl ?_
  exact mS_reta ⟨_, _, _, _, _, rfl⟩ rfl
def f_J0_isEmpty_aae02 (r0 : Nat) : Option Int32 := (if r0 < 9 then (if r0 < 9 then (if (m_sl r0) = 0 then (some (1 : Int32)) else (some (0 : Int32))) else none) else none)
set_option maxRecDepth 20000 in
set_option maxHeartbeats 2000000 in
theorem f_J0_isEmpty_aae02_snd {fm : Value} {L : Nat} {xs : Nat → Int32} (r0 : Nat) (mem : mM) : mS fm L xs (fun r : Int32 => (.int r, mem)) pg_J0_isEmpty_aae02 0 (m_entry [.ref (mBIG + r0)] 1) [] mem ((f_J0_isEmpty_aae02 r0)) := by
  unfold f_J0_isEmpty_aae02
  refine mS_steps (pc' := 0) (ls' := [.ref (mBIG + r0)]) (st' := []) (mem' := mem) 0 rfl ?_
  refine mS_steps (pc' := 1) (ls' := [.ref (mBIG + r0)]) (st' := [.ref (mBIG + r0)]) (mem' := mem) 1 rfl ?_
  refine mS_s33 rfl (fun _ => ?_)
  refine mS_s38 rfl (fun _ => ?_)
  refine mS_if1 rfl (fun _ => ?_) (fun _ => ?_)
  · refine mS_steps (pc' := 13) (ls' := [.ref (mBIG + r0)]) (st' := [.int (1 : Int32)]) (mem' := mem) 2 rfl ?_
    exact mS_reti ⟨_, _, _, _, _, rfl, (by decide)⟩ rfl
  · refine mS_steps (pc' := 13) (ls' := [.ref (mBIG + r0)]) (st' := [.int (0 : Int32)]) (mem' := mem) 1 rfl ?_
    exact mS_reti ⟨_, _, _, _, _, rfl, (by decide)⟩ rfl
def f_X5_goesOn (p1 : Int32) (x : mX) : Option (Int32 × mX) := (if x.2.2 < 9 then ((f_J0_length_8abf5 x.2.2).bind fun q1 => (if q1 ≤ (x.1 1 9) then ((f_X5_shapeOf p1).bind fun q2 => (m_let (m_xt x q2) fun x3 => (m_let (m_xs x3 1 9 (0 : Int32)) fun x4 => (if x4.2.2 < 9 then ((f_J0_isEmpty_aae02 x4.2.2).bind fun q5 => (if q5 = 0 then (some ((1 : Int32), x4)) else (some ((0 : Int32), x4)))) else none)))) else (if x.2.2 < 9 then ((f_J0_charAt_5068e x.2.2 (x.1 1 9)).bind fun q6 => (m_jn (fun w8 => (m_let (m_xs x 1 9 ((x.1 1 9) + (1 : Int32))) fun x9 => (if m_nr 1 w8 = true then (some (w8, x9)) else none))) (fun j7 => if q6 = p1 then (j7 (1 : Int32)) else (j7 (0 : Int32))))) else none))) else none)
set_option maxRecDepth 20000 in
set_option maxHeartbeats 2000000 in
theorem f_X5_goesOn_snd {fm : Value} {L : Nat} {xs : Nat → Int32} (hfm : fm = .null ∨ fm = .ref (mBIG + 200)) (p1 : Int32) (x : mX) (y : mY) : mS fm L xs (fun r : (Int32 × mX) => (.int r.1, mk r.2 y)) pg_X5_goesOn 0 (m_entry [.ref 1, .int p1] 3) [] (mk x y) ((f_X5_goesOn p1 x)) := by
  unfold f_X5_goesOn
  refine mS_steps (pc' := 0) (ls' := [.ref 1, .int p1, mU]) (st' := []) (mem' := (mk x y)) 0 rfl ?_
  refine mS_steps (pc' := 8) (ls' := [.ref 1, .int p1, mU]) (st' := [.ref (mBIG + x.2.2), .int (x.1 1 9)]) (mem' := (mk x y)) 4 rfl ?_
  refine mS_guard (fun hj => ?_)
  refine mS_bind (fun q1 hq1 => mS_call 25 1 [.ref (mBIG + x.2.2)] [.int (x.1 1 9)] rfl rfl rfl ⟨_, _, _, rfl, (m_rcvS hj)⟩ (Nat.le_of_ble_eq_true rfl) (Nat.le_of_ble_eq_true rfl) hq1 (f_J0_length_8abf5_snd x.2.2 (mk x y)) ?_)
  refine mS_steps (pc' := 11) (ls' := [.ref 1, .int p1, mU]) (st' := [.int q1, .int (x.1 1 9)]) (mem' := (mk x y)) 0 rfl ?_
  refine mS_ic3 rfl (fun _ => ?_) (fun _ => ?_)
  · refine mS_steps (pc' := 49) (ls' := [.ref 1, .int p1, mU]) (st' := [.int p1, .ref 1]) (mem' := (mk x y)) 2 rfl ?_
    refine mS_bind (fun q2 hq2 => mS_call 37 1 [.int p1] [.ref 1] rfl rfl rfl ⟨_, _, _, rfl, rfl⟩ (Nat.le_of_ble_eq_true rfl) (Nat.le_of_ble_eq_true rfl) hq2 (f_X5_shapeOf_snd p1 (mk x y)) ?_)
    refine mS_steps (pc' := 52) (ls' := [.ref 1, .int p1, mU]) (st' := [.ref (mBIG + q2), .ref 1]) (mem' := (mk x y)) 0 rfl ?_
    refine mS_putt rfl ?_
    refine mS_letx (fun x3 => ?_)
    refine mS_steps (pc' := 57) (ls' := [.ref 1, .int p1, mU]) (st' := [.int (0 : Int32), .ref 1]) (mem' := (mk x3 y)) 2 rfl ?_
    refine mS_putx rfl rfl (by decide) rfl ?_
    refine mS_letx (fun x4 => ?_)
    refine mS_steps (pc' := 64) (ls' := [.ref 1, .int p1, mU]) (st' := [.ref (mBIG + x4.2.2)]) (mem' := (mk x4 y)) 2 rfl ?_
    refine mS_guard (fun hj => ?_)
    refine mS_bind (fun q5 hq5 => mS_call 38 1 [.ref (mBIG + x4.2.2)] [] rfl rfl rfl ⟨_, _, _, rfl, (m_rcvS hj)⟩ (Nat.le_of_ble_eq_true rfl) (Nat.le_of_ble_eq_true rfl) hq5 (f_J0_isEmpty_aae02_snd x4.2.2 (mk x4 y)) ?_)
    refine mS_steps (pc' := 67) (ls' := [.ref 1, .int p1, mU]) (st' := [.int q5]) (mem' := (mk x4 y)) 0 rfl ?_
    refine mS_if1 rfl (fun _ => ?_) (fun _ => ?_)
    · refine mS_steps (pc' := 75) (ls' := [.ref 1, .int p1, mU]) (st' := [.int (1 : Int32)]) (mem' := (mk x4 y)) 2 rfl ?_
      exact mS_reti ⟨_, _, _, _, _, rfl, (by decide)⟩ rfl
    · refine mS_steps (pc' := 75) (ls' := [.ref 1, .int p1, mU]) (st' := [.int (0 : Int32)]) (mem' := (mk x4 y)) 1 rfl ?_
      exact mS_reti ⟨_, _, _, _, _, rfl, (by decide)⟩ rfl
  · refine mS_steps (pc' := 22) (ls' := [.ref 1, .int p1, mU]) (st' := [.int (x.1 1 9), .ref (mBIG + x.2.2)]) (mem' := (mk x y)) 4 rfl ?_
    refine mS_guard (fun hj => ?_)
    refine mS_bind (fun q6 hq6 => mS_call 34 2 [.ref (mBIG + x.2.2), .int (x.1 1 9)] [] rfl rfl rfl ⟨_, _, _, rfl, (m_rcvS hj)⟩ (Nat.le_of_ble_eq_true rfl) (Nat.le_of_ble_eq_true rfl) hq6 (f_J0_charAt_5068e_snd hfm x.2.2 (x.1 1 9) (mk x y)) ?_)
    refine mS_steps (pc' := 26) (ls' := [.ref 1, .int p1, mU]) (st' := [.int p1, .int q6]) (mem' := (mk x y)) 1 rfl ?_
    refine mS_jn (fun j => ∀ z : Int32, mS fm L xs (fun r : (Int32 × mX) => (.int r.1, mk r.2 y)) pg_X5_goesOn 34 [.ref 1, mU, mU] [.int z] (mk x y) (j z)) ?_ ?_
    · intro z
      revert z; intro w8
      refine mS_steps (pc' := 42) (ls' := [.ref 1, mU, .int w8]) (st' := [.int ((x.1 1 9) + (1 : Int32)), .ref 1]) (mem' := (mk x y)) 6 rfl ?_
      refine mS_putx rfl rfl (by decide) rfl ?_
      refine mS_letx (fun x9 => ?_)
      refine mS_steps (pc' := 46) (ls' := [.ref 1, mU, .int w8]) (st' := [.int w8]) (mem' := (mk x9 y)) 1 rfl ?_
      refine mS_guard (fun hz => ?_)
      exact mS_reti ⟨_, _, _, _, _, rfl, hz⟩ rfl
    intro j7 hj7
    refine mS_ic1 rfl (fun _ => ?_) (fun _ => ?_)
    · refine mS_steps (pc' := 34) (ls' := [.ref 1, .int p1, mU]) (st' := [.int (1 : Int32)]) (mem' := (mk x y)) 2 rfl ?_
      refine mS_forget [.ref 1, mU, mU] ⟨Or.inr rfl, Or.inl rfl, Or.inl rfl, trivial⟩ ?_
      exact hj7 (1 : Int32)
    · refine mS_steps (pc' := 34) (ls' := [.ref 1, .int p1, mU]) (st' := [.int (0 : Int32)]) (mem' := (mk x y)) 1 rfl ?_
      refine mS_forget [.ref 1, mU, mU] ⟨Or.inr rfl, Or.inl rfl, Or.inl rfl, trivial⟩ ?_
      exact hj7 (0 : Int32)
def f_X5_fits (p1 : Int32) (x : mX) : Option (Int32 × mX) := (m_jn (fun x2 => (m_jn (fun x4 => (if (400 : Int32) ≤ (x4.1 1 4) then (some ((0 : Int32), x4)) else (if (8 : Int32) < (x4.1 1 10) then (some ((0 : Int32), x4)) else (if (16 : Int32) < (x4.1 1 11) then (some ((0 : Int32), x4)) else (some ((1 : Int32), x4)))))) (fun j3 => if p1 = (108 : Int32) then (m_let (m_xs x2 1 11 ((x2.1 1 11) + (1 : Int32))) fun x5 => (j3 x5)) else (j3 x2)))) (fun j1 => if p1 = (112 : Int32) then (m_let (m_xs x 1 10 ((x.1 1 10) + (1 : Int32))) fun x6 => (j1 x6)) else (j1 x)))
set_option maxRecDepth 20000 in
set_option maxHeartbeats 2000000 in
theorem f_X5_fits_snd {fm : Value} {L : Nat} {xs : Nat → Int32} (p1 : Int32) (x : mX) (y : mY) : mS fm L xs (fun r : (Int32 × mX) => (.int r.1, mk r.2 y)) pg_X5_fits 0 (m_entry [.ref 1, .int p1] 2) [] (mk x y) ((f_X5_fits p1 x)) := by
  unfold f_X5_fits
  refine mS_steps (pc' := 0) (ls' := [.ref 1, .int p1]) (st' := []) (mem' := (mk x y)) 0 rfl ?_
  refine mS_steps (pc' := 3) (ls' := [.ref 1, .int p1]) (st' := [.int (112 : Int32), .int p1]) (mem' := (mk x y)) 2 rfl ?_
  refine mS_jn (fun j => ∀ z : mX, mS fm L xs (fun r : (Int32 × mX) => (.int r.1, mk r.2 y)) pg_X5_fits 16 [.ref 1, .int p1] [] (mk z y) (j z)) ?_ ?_
  · intro z
    revert z; intro x2
    refine mS_steps (pc' := 19) (ls' := [.ref 1, .int p1]) (st' := [.int (108 : Int32), .int p1]) (mem' := (mk x2 y)) 2 rfl ?_
    refine mS_jn (fun j => ∀ z : mX, mS fm L xs (fun r : (Int32 × mX) => (.int r.1, mk r.2 y)) pg_X5_fits 32 [.ref 1, mU] [] (mk z y) (j z)) ?_ ?_
    · intro z
      revert z; intro x4
      refine mS_steps (pc' := 39) (ls' := [.ref 1, mU]) (st' := [.int (400 : Int32), .int (x4.1 1 4)]) (mem' := (mk x4 y)) 3 rfl ?_
      refine mS_ic3 rfl (fun _ => ?_) (fun _ => ?_)
      · refine mS_steps (pc' := 65) (ls' := [.ref 1, mU]) (st' := [.int (0 : Int32)]) (mem' := (mk x4 y)) 1 rfl ?_
        exact mS_reti ⟨_, _, _, _, _, rfl, (by decide)⟩ rfl
      · refine mS_steps (pc' := 48) (ls' := [.ref 1, mU]) (st' := [.int (8 : Int32), .int (x4.1 1 10)]) (mem' := (mk x4 y)) 3 rfl ?_
        refine mS_ic4 rfl (fun _ => ?_) (fun _ => ?_)
        · refine mS_steps (pc' := 65) (ls' := [.ref 1, mU]) (st' := [.int (0 : Int32)]) (mem' := (mk x4 y)) 1 rfl ?_
          exact mS_reti ⟨_, _, _, _, _, rfl, (by decide)⟩ rfl
        · refine mS_steps (pc' := 57) (ls' := [.ref 1, mU]) (st' := [.int (16 : Int32), .int (x4.1 1 11)]) (mem' := (mk x4 y)) 3 rfl ?_
          refine mS_ic4 rfl (fun _ => ?_) (fun _ => ?_)
          · refine mS_steps (pc' := 65) (ls' := [.ref 1, mU]) (st' := [.int (0 : Int32)]) (mem' := (mk x4 y)) 1 rfl ?_
            exact mS_reti ⟨_, _, _, _, _, rfl, (by decide)⟩ rfl
          · refine mS_steps (pc' := 65) (ls' := [.ref 1, mU]) (st' := [.int (1 : Int32)]) (mem' := (mk x4 y)) 2 rfl ?_
            exact mS_reti ⟨_, _, _, _, _, rfl, (by decide)⟩ rfl
    intro j3 hj3
    refine mS_ic1 rfl (fun _ => ?_) (fun _ => ?_)
    · refine mS_steps (pc' := 29) (ls' := [.ref 1, .int p1]) (st' := [.int ((x2.1 1 11) + (1 : Int32)), .ref 1]) (mem' := (mk x2 y)) 5 rfl ?_
      refine mS_putx rfl rfl (by decide) rfl ?_
      refine mS_letx (fun x5 => ?_)
      refine mS_forget [.ref 1, mU] ⟨Or.inr rfl, Or.inl rfl, trivial⟩ ?_
      exact hj3 x5
    · refine mS_forget [.ref 1, mU] ⟨Or.inr rfl, Or.inl rfl, trivial⟩ ?_
      exact hj3 x2
  intro j1 hj1
  refine mS_ic1 rfl (fun _ => ?_) (fun _ => ?_)
  · refine mS_steps (pc' := 13) (ls' := [.ref 1, .int p1]) (st' := [.int ((x.1 1 10) + (1 : Int32)), .ref 1]) (mem' := (mk x y)) 5 rfl ?_
    refine mS_putx rfl rfl (by decide) rfl ?_
    refine mS_letx (fun x6 => ?_)
    exact hj1 x6
  · exact hj1 x
def f_X5_packed_L6 (a1 : Int32) (a2 : Int32) (a3 : Int32) (a4 : Int32) : Nat → Int64 → Int32 → mX → Option Int64
  | 0, _, _, _ => none
  | n + 1, a5, a7, x => (if (8 : Int32) ≤ a7 then (some a5) else (if a2 ≤ (a1 + a7) then (some a5) else ((f_X5_byteAt (a1 + a7) x).bind fun q1 => (f_X5_packed_L6 a1 a2 a3 a4 n ((a5 * (a3.toInt64)) + ((q1 - a4).toInt64)) (a7 + (1 : Int32)) x))))
def f_X5_packed (p1 : Int32) (p2 : Int32) (p3 : Int32) (p4 : Int32) (x : mX) : Option Int64 := (f_X5_packed_L6 p1 p2 p3 p4 mF (0 : Int64) (0 : Int32) x)
set_option maxRecDepth 20000 in
set_option maxHeartbeats 2000000 in
theorem f_X5_packed_L6_snd {fm : Value} {L : Nat} {xs : Nat → Int32} (a1 : Int32) (a2 : Int32) (a3 : Int32) (a4 : Int32) (x : mX) (y : mY) : ∀ (n : Nat) (a5 : Int64) (a7 : Int32), mS fm L xs (fun r : Int64 => (.long r, (mk x y))) pg_X5_packed 6 [.ref 1, .int a1, .int a2, .int a3, .int a4, .long a5, mU, .int a7] [] (mk x y) (f_X5_packed_L6 a1 a2 a3 a4 n a5 a7 x) := by
  intro n
  induction n with
  | zero => intro a5 a7; exact mS_none
  | succ n ih =>
    intro a5 a7
    rw [f_X5_packed_L6]
    refine mS_steps (pc' := 10) (ls' := [.ref 1, .int a1, .int a2, .int a3, .int a4, .long a5, mU, .int a7]) (st' := [.int (8 : Int32), .int a7]) (mem' := (mk x y)) 2 rfl ?_
    refine mS_ic3 rfl (fun _ => ?_) (fun _ => ?_)
    · refine mS_steps (pc' := 49) (ls' := [.ref 1, .int a1, .int a2, .int a3, .int a4, .long a5, mU, .int a7]) (st' := [.long a5]) (mem' := (mk x y)) 1 rfl ?_
      exact mS_retl ⟨_, _, _, _, _, rfl⟩ rfl
    · refine mS_steps (pc' := 18) (ls' := [.ref 1, .int a1, .int a2, .int a3, .int a4, .long a5, mU, .int a7]) (st' := [.int a2, .int (a1 + a7)]) (mem' := (mk x y)) 4 rfl ?_
      refine mS_ic3 rfl (fun _ => ?_) (fun _ => ?_)
      · refine mS_steps (pc' := 49) (ls' := [.ref 1, .int a1, .int a2, .int a3, .int a4, .long a5, mU, .int a7]) (st' := [.long a5]) (mem' := (mk x y)) 1 rfl ?_
        exact mS_retl ⟨_, _, _, _, _, rfl⟩ rfl
      · refine mS_steps (pc' := 31) (ls' := [.ref 1, .int a1, .int a2, .int a3, .int a4, .long a5, mU, .int a7]) (st' := [.int (a1 + a7), .ref 1, .long (a5 * (a3.toInt64))]) (mem' := (mk x y)) 8 rfl ?_
        refine mS_bind (fun q1 hq1 => mS_call 21 2 [.ref 1, .int (a1 + a7)] [.long (a5 * (a3.toInt64))] rfl rfl rfl ⟨_, _, _, rfl, rfl⟩ (Nat.le_of_ble_eq_true rfl) (Nat.le_of_ble_eq_true rfl) hq1 (f_X5_byteAt_snd (a1 + a7) x y) ?_)
        refine mS_steps (pc' := 6) (ls' := [.ref 1, .int a1, .int a2, .int a3, .int a4, .long ((a5 * (a3.toInt64)) + ((q1 - a4).toInt64)), mU, .int (a7 + (1 : Int32))]) (st' := []) (mem' := (mk x y)) 7 rfl ?_
        exact ih ((a5 * (a3.toInt64)) + ((q1 - a4).toInt64)) (a7 + (1 : Int32))
set_option maxRecDepth 20000 in
set_option maxHeartbeats 2000000 in
theorem f_X5_packed_snd {fm : Value} {L : Nat} {xs : Nat → Int32} (p1 : Int32) (p2 : Int32) (p3 : Int32) (p4 : Int32) (x : mX) (y : mY) : mS fm L xs (fun r : Int64 => (.long r, (mk x y))) pg_X5_packed 0 (m_entry [.ref 1, .int p1, .int p2, .int p3, .int p4] 8) [] (mk x y) ((f_X5_packed p1 p2 p3 p4 x)) := by
  unfold f_X5_packed
  refine mS_steps (pc' := 0) (ls' := [.ref 1, .int p1, .int p2, .int p3, .int p4, mU, mU, mU]) (st' := []) (mem' := (mk x y)) 0 rfl ?_
  refine mS_steps (pc' := 6) (ls' := [.ref 1, .int p1, .int p2, .int p3, .int p4, .long (0 : Int64), mU, .int (0 : Int32)]) (st' := []) (mem' := (mk x y)) 4 rfl ?_
  refine f_X5_packed_L6_snd p1 p2 p3 p4 x y mF (0 : Int64) (0 : Int32)
def f_X5_keepToken (p1 : Int32) (p2 : Int32) (p3 : Int32) (x : mX) : Option mX := (if (x.1 1 4) < 0 then (some x) else (if (x.1 1 4) < (400 : Int32) then (if m_in (x.1 1 4) 400 = true then (m_let (m_xs x 8 (x.1 1 4).toNatClampNeg p1) fun x1 => (if m_in (x1.1 1 4) 400 = true then (m_let (m_xs x1 9 (x1.1 1 4).toNatClampNeg p2) fun x2 => (m_jn (fun w4 => (if m_in (x2.1 1 4) 400 = true then (m_let (m_xl x2 10 (x2.1 1 4).toNatClampNeg w4) fun x5 => (m_let (m_xs x5 1 4 ((x5.1 1 4) + (1 : Int32))) fun x6 => (some x6))) else none)) (fun j3 => if p1 = (105 : Int32) then ((f_X5_packed p2 p3 (10 : Int32) (48 : Int32) x2).bind fun q7 => (j3 q7)) else ((f_X5_packed p2 p3 (32 : Int32) (96 : Int32) x2).bind fun q8 => (j3 q8))))) else none)) else none) else (some x)))
set_option maxRecDepth 20000 in
set_option maxHeartbeats 2000000 in
theorem f_X5_keepToken_snd {fm : Value} {L : Nat} {xs : Nat → Int32} (p1 : Int32) (p2 : Int32) (p3 : Int32) (x : mX) (y : mY) : mS fm L xs (fun r : mX => (mU, mk r y)) pg_X5_keepToken 0 (m_entry [.ref 1, .int p1, .int p2, .int p3] 4) [] (mk x y) ((f_X5_keepToken p1 p2 p3 x)) := by
  unfold f_X5_keepToken
  refine mS_steps (pc' := 0) (ls' := [.ref 1, .int p1, .int p2, .int p3]) (st' := []) (mem' := (mk x y)) 0 rfl ?_
  refine mS_steps (pc' := 4) (ls' := [.ref 1, .int p1, .int p2, .int p3]) (st' := [.int (x.1 1 4)]) (mem' := (mk x y)) 2 rfl ?_
  refine mS_if2 rfl (fun _ => ?_) (fun _ => ?_)
  · exact mS_retv ⟨_, _, _, _, _, rfl⟩ rfl
  · refine mS_steps (pc' := 14) (ls' := [.ref 1, .int p1, .int p2, .int p3]) (st' := [.int (400 : Int32), .int (x.1 1 4)]) (mem' := (mk x y)) 3 rfl ?_
    refine mS_ic2 rfl (fun _ => ?_) (fun _ => ?_)
    · refine mS_steps (pc' := 27) (ls' := [.ref 1, .int p1, .int p2, .int p3]) (st' := [.int p1, .int (x.1 1 4), .ref 8]) (mem' := (mk x y)) 5 rfl ?_
      refine mS_ast0x (n := 400) rfl rfl (by decide) (fun _ => ?_)
      refine mS_letx (fun x1 => ?_)
      refine mS_steps (pc' := 37) (ls' := [.ref 1, .int p1, .int p2, .int p3]) (st' := [.int p2, .int (x1.1 1 4), .ref 9]) (mem' := (mk x1 y)) 5 rfl ?_
      refine mS_ast0x (n := 400) rfl rfl (by decide) (fun _ => ?_)
      refine mS_letx (fun x2 => ?_)
      refine mS_steps (pc' := 49) (ls' := [.ref 1, .int p1, .int p2, .int p3]) (st' := [.int (105 : Int32), .int p1, .int (x2.1 1 4), .ref 10]) (mem' := (mk x2 y)) 6 rfl ?_
      refine mS_jn (fun j => ∀ z : Int64, mS fm L xs (fun r : mX => (mU, mk r y)) pg_X5_keepToken 75 [.ref 1, mU, mU, mU] [.long z, .int (x2.1 1 4), .ref 10] (mk x2 y) (j z)) ?_ ?_
      · intro z
        revert z; intro w4
        refine mS_lastorex (n := 400) rfl rfl (by decide) (fun _ => ?_)
        refine mS_letx (fun x5 => ?_)
        refine mS_steps (pc' := 83) (ls' := [.ref 1, mU, mU, mU]) (st' := [.int ((x5.1 1 4) + (1 : Int32)), .ref 1]) (mem' := (mk x5 y)) 5 rfl ?_
        refine mS_putx rfl rfl (by decide) rfl ?_
        refine mS_letx (fun x6 => ?_)
        exact mS_retv ⟨_, _, _, _, _, rfl⟩ rfl
      intro j3 hj3
      refine mS_ic1 rfl (fun _ => ?_) (fun _ => ?_)
      · refine mS_steps (pc' := 59) (ls' := [.ref 1, .int p1, .int p2, .int p3]) (st' := [.int (48 : Int32), .int (10 : Int32), .int p3, .int p2, .ref 1, .int (x2.1 1 4), .ref 10]) (mem' := (mk x2 y)) 5 rfl ?_
        refine mS_bind (fun q7 hq7 => mS_call 41 5 [.ref 1, .int p2, .int p3, .int (10 : Int32), .int (48 : Int32)] [.int (x2.1 1 4), .ref 10] rfl rfl rfl ⟨_, _, _, rfl, rfl⟩ (Nat.le_of_ble_eq_true rfl) (Nat.le_of_ble_eq_true rfl) hq7 (f_X5_packed_snd p2 p3 (10 : Int32) (48 : Int32) x2 y) ?_)
        refine mS_steps (pc' := 75) (ls' := [.ref 1, .int p1, .int p2, .int p3]) (st' := [.long q7, .int (x2.1 1 4), .ref 10]) (mem' := (mk x2 y)) 1 rfl ?_
        refine mS_forget [.ref 1, mU, mU, mU] ⟨Or.inr rfl, Or.inl rfl, Or.inl rfl, Or.inl rfl, trivial⟩ ?_
        exact hj3 q7
      · refine mS_steps (pc' := 72) (ls' := [.ref 1, .int p1, .int p2, .int p3]) (st' := [.int (96 : Int32), .int (32 : Int32), .int p3, .int p2, .ref 1, .int (x2.1 1 4), .ref 10]) (mem' := (mk x2 y)) 5 rfl ?_
        refine mS_bind (fun q8 hq8 => mS_call 41 5 [.ref 1, .int p2, .int p3, .int (32 : Int32), .int (96 : Int32)] [.int (x2.1 1 4), .ref 10] rfl rfl rfl ⟨_, _, _, rfl, rfl⟩ (Nat.le_of_ble_eq_true rfl) (Nat.le_of_ble_eq_true rfl) hq8 (f_X5_packed_snd p2 p3 (32 : Int32) (96 : Int32) x2 y) ?_)
        refine mS_steps (pc' := 75) (ls' := [.ref 1, .int p1, .int p2, .int p3]) (st' := [.long q8, .int (x2.1 1 4), .ref 10]) (mem' := (mk x2 y)) 0 rfl ?_
        refine mS_forget [.ref 1, mU, mU, mU] ⟨Or.inr rfl, Or.inl rfl, Or.inl rfl, Or.inl rfl, trivial⟩ ?_
        exact hj3 q8
    · exact mS_retv ⟨_, _, _, _, _, rfl⟩ rfl
def f_X5_split_L30 : Nat → Int32 → Int32 → mX → (mX → Option (Int32 × mX)) → Option (Int32 × mX)
  | 0, _, _, _, _ => none
  | n + 1, a1, a2, x, k51 => (if (2000 : Int32) < a2 then (some ((0 : Int32), x)) else ((f_X5_afterBlanks a1 x).bind fun q6 => (if q6 < (x.1 1 0) then ((f_X5_tokenEnd q6 x).bind fun q7 => ((f_X5_sortOf q6 q7 x).bind fun q8 => ((f_X5_goesOn q8 x).bind fun q9 => (if q9.1 = 0 then ((f_X5_failAt (1 : Int32) q6 q9.2).bind fun q10 => (some (q10.1, q10.2))) else ((f_X5_fits q8 q9.2).bind fun q11 => (if q11.1 = 0 then ((f_X5_failAt (2 : Int32) q6 q11.2).bind fun q12 => (some (q12.1, q12.2))) else ((f_X5_keepToken q8 q6 q7 q11.2).bind fun q13 => (f_X5_split_L30 n q7 (a2 + (1 : Int32)) q13 k51)))))))) else (k51 x))))
def f_X5_split (x : mX) : Option (Int32 × mX) := (m_let (m_xs x 1 4 (0 : Int32)) fun x1 => (m_let (m_xt x1 0) fun x2 => (m_let (m_xs x2 1 9 (0 : Int32)) fun x3 => (m_let (m_xs x3 1 10 (0 : Int32)) fun x4 => (m_let (m_xs x4 1 11 (0 : Int32)) fun x5 => (f_X5_split_L30 mF (0 : Int32) (0 : Int32) x5 (fun x14 => (if x14.2.2 < 9 then ((f_J0_length_8abf5 x14.2.2).bind fun q15 => (if q15 ≤ (x14.1 1 9) then (some ((0 : Int32), x14)) else ((f_X5_failAt (1 : Int32) (x14.1 1 0) x14).bind fun q16 => (some (q16.1, q16.2))))) else none))))))))
set_option maxRecDepth 20000 in
set_option maxHeartbeats 2000000 in
theorem f_X5_split_L30_snd {fm : Value} {L : Nat} {xs : Nat → Int32} (hfm : fm = .null ∨ fm = .ref (mBIG + 200)) (y : mY) (k51 : mX → Option (Int32 × mX)) (hk51 : ∀ (z0 : mX), mS fm L xs (fun r : (Int32 × mX) => (.int r.1, mk r.2 y)) pg_X5_split 51 [.ref 1, mU, mU, mU, mU] [] (mk z0 y) (k51 z0)) : ∀ (n : Nat) (a1 : Int32) (a2 : Int32) (x : mX), mS fm L xs (fun r : (Int32 × mX) => (.int r.1, mk r.2 y)) pg_X5_split 30 [.ref 1, .int a1, .int a2, mU, mU] [] (mk x y) (f_X5_split_L30 n a1 a2 x k51) := by
  intro n
  induction n with
  | zero => intro a1 a2 x; exact mS_none
  | succ n ih =>
    intro a1 a2 x
    rw [f_X5_split_L30]
    refine mS_steps (pc' := 34) (ls' := [.ref 1, .int a1, .int a2, mU, mU]) (st' := [.int (2000 : Int32), .int a2]) (mem' := (mk x y)) 2 rfl ?_
    refine mS_ic4 rfl (fun _ => ?_) (fun _ => ?_)
    · refine mS_steps (pc' := 142) (ls' := [.ref 1, .int a1, .int a2, mU, mU]) (st' := [.int (0 : Int32)]) (mem' := (mk x y)) 1 rfl ?_
      exact mS_reti ⟨_, _, _, _, _, rfl, rfl⟩ rfl
    · refine mS_steps (pc' := 39) (ls' := [.ref 1, .int a1, .int a2, mU, mU]) (st' := [.int a1, .ref 1]) (mem' := (mk x y)) 2 rfl ?_
      refine mS_bind (fun q6 hq6 => mS_call 23 2 [.ref 1, .int a1] [] rfl rfl rfl ⟨_, _, _, rfl, rfl⟩ (Nat.le_of_ble_eq_true rfl) (Nat.le_of_ble_eq_true rfl) hq6 (f_X5_afterBlanks_snd a1 x y) ?_)
      refine mS_steps (pc' := 48) (ls' := [.ref 1, .int q6, .int a2, mU, mU]) (st' := [.int (x.1 1 0), .int q6]) (mem' := (mk x y)) 4 rfl ?_
      refine mS_ic2 rfl (fun _ => ?_) (fun _ => ?_)
      · refine mS_steps (pc' := 81) (ls' := [.ref 1, .int q6, .int a2, mU, mU]) (st' := [.int q6, .ref 1]) (mem' := (mk x y)) 2 rfl ?_
        refine mS_bind (fun q7 hq7 => mS_call 29 2 [.ref 1, .int q6] [] rfl rfl rfl ⟨_, _, _, rfl, rfl⟩ (Nat.le_of_ble_eq_true rfl) (Nat.le_of_ble_eq_true rfl) hq7 (f_X5_tokenEnd_snd q6 x y) ?_)
        refine mS_steps (pc' := 88) (ls' := [.ref 1, .int q6, .int a2, .int q7, mU]) (st' := [.int q7, .int q6, .ref 1]) (mem' := (mk x y)) 4 rfl ?_
        refine mS_bind (fun q8 hq8 => mS_call 36 3 [.ref 1, .int q6, .int q7] [] rfl rfl rfl ⟨_, _, _, rfl, rfl⟩ (Nat.le_of_ble_eq_true rfl) (Nat.le_of_ble_eq_true rfl) hq8 (f_X5_sortOf_snd hfm q6 q7 x y) ?_)
        refine mS_steps (pc' := 96) (ls' := [.ref 1, .int q6, .int a2, .int q7, .int q8]) (st' := [.int q8, .ref 1]) (mem' := (mk x y)) 3 rfl ?_
        refine mS_bind (fun q9 hq9 => mS_call 39 2 [.ref 1, .int q8] [] rfl rfl rfl ⟨_, _, _, rfl, rfl⟩ (Nat.le_of_ble_eq_true rfl) (Nat.le_of_ble_eq_true rfl) hq9 (f_X5_goesOn_snd hfm q8 x y) ?_)
        refine mS_steps (pc' := 99) (ls' := [.ref 1, .int q6, .int a2, .int q7, .int q8]) (st' := [.int q9.1]) (mem' := (mk q9.2 y)) 0 rfl ?_
        refine mS_if1 rfl (fun _ => ?_) (fun _ => ?_)
        · refine mS_steps (pc' := 105) (ls' := [.ref 1, .int q6, .int a2, .int q7, .int q8]) (st' := [.int q6, .int (1 : Int32), .ref 1]) (mem' := (mk q9.2 y)) 3 rfl ?_
          refine mS_bind (fun q10 hq10 => mS_call 26 3 [.ref 1, .int (1 : Int32), .int q6] [] rfl rfl rfl ⟨_, _, _, rfl, rfl⟩ (Nat.le_of_ble_eq_true rfl) (Nat.le_of_ble_eq_true rfl) hq10 (f_X5_failAt_snd (1 : Int32) q6 q9.2 y) ?_)
          refine mS_steps (pc' := 108) (ls' := [.ref 1, .int q6, .int a2, .int q7, .int q8]) (st' := [.int q10.1]) (mem' := (mk q10.2 y)) 0 rfl ?_
          exact mS_reti ⟨_, _, _, _, _, rfl, rfl⟩ rfl
        · refine mS_steps (pc' := 112) (ls' := [.ref 1, .int q6, .int a2, .int q7, .int q8]) (st' := [.int q8, .ref 1]) (mem' := (mk q9.2 y)) 2 rfl ?_
          refine mS_bind (fun q11 hq11 => mS_call 40 2 [.ref 1, .int q8] [] rfl rfl rfl ⟨_, _, _, rfl, rfl⟩ (Nat.le_of_ble_eq_true rfl) (Nat.le_of_ble_eq_true rfl) hq11 (f_X5_fits_snd q8 q9.2 y) ?_)
          refine mS_steps (pc' := 115) (ls' := [.ref 1, .int q6, .int a2, .int q7, .int q8]) (st' := [.int q11.1]) (mem' := (mk q11.2 y)) 0 rfl ?_
          refine mS_if1 rfl (fun _ => ?_) (fun _ => ?_)
          · refine mS_steps (pc' := 121) (ls' := [.ref 1, .int q6, .int a2, .int q7, .int q8]) (st' := [.int q6, .int (2 : Int32), .ref 1]) (mem' := (mk q11.2 y)) 3 rfl ?_
            refine mS_bind (fun q12 hq12 => mS_call 26 3 [.ref 1, .int (2 : Int32), .int q6] [] rfl rfl rfl ⟨_, _, _, rfl, rfl⟩ (Nat.le_of_ble_eq_true rfl) (Nat.le_of_ble_eq_true rfl) hq12 (f_X5_failAt_snd (2 : Int32) q6 q11.2 y) ?_)
            refine mS_steps (pc' := 124) (ls' := [.ref 1, .int q6, .int a2, .int q7, .int q8]) (st' := [.int q12.1]) (mem' := (mk q12.2 y)) 0 rfl ?_
            exact mS_reti ⟨_, _, _, _, _, rfl, rfl⟩ rfl
          · refine mS_steps (pc' := 130) (ls' := [.ref 1, .int q6, .int a2, .int q7, .int q8]) (st' := [.int q7, .int q6, .int q8, .ref 1]) (mem' := (mk q11.2 y)) 4 rfl ?_
            refine mS_bind (fun q13 hq13 => mS_call 42 4 [.ref 1, .int q8, .int q6, .int q7] [] rfl rfl rfl ⟨_, _, _, rfl, rfl⟩ (Nat.le_of_ble_eq_true rfl) (Nat.le_of_ble_eq_true rfl) hq13 (f_X5_keepToken_snd q8 q6 q7 q11.2 y) ?_)
            refine mS_steps (pc' := 30) (ls' := [.ref 1, .int q7, .int (a2 + (1 : Int32)), .int q7, .int q8]) (st' := []) (mem' := (mk q13 y)) 4 rfl ?_
            refine mS_forget [.ref 1, .int q7, .int (a2 + (1 : Int32)), mU, mU] ⟨Or.inr rfl, Or.inr rfl, Or.inr rfl, Or.inl rfl, Or.inl rfl, trivial⟩ ?_
            exact ih q7 (a2 + (1 : Int32)) q13
      · refine mS_forget [.ref 1, mU, mU, mU, mU] ⟨Or.inr rfl, Or.inl rfl, Or.inl rfl, Or.inl rfl, Or.inl rfl, trivial⟩ ?_
        exact hk51 x
set_option maxRecDepth 20000 in
set_option maxHeartbeats 2000000 in
theorem f_X5_split_snd {fm : Value} {L : Nat} {xs : Nat → Int32} (hfm : fm = .null ∨ fm = .ref (mBIG + 200)) (x : mX) (y : mY) : mS fm L xs (fun r : (Int32 × mX) => (.int r.1, mk r.2 y)) pg_X5_split 0 (m_entry [.ref 1] 5) [] (mk x y) ((f_X5_split x)) := by
  unfold f_X5_split
  refine mS_steps (pc' := 0) (ls' := [.ref 1, mU, mU, mU, mU]) (st' := []) (mem' := (mk x y)) 0 rfl ?_
  refine mS_steps (pc' := 2) (ls' := [.ref 1, mU, mU, mU, mU]) (st' := [.int (0 : Int32), .ref 1]) (mem' := (mk x y)) 2 rfl ?_
  refine mS_putx rfl rfl (by decide) rfl ?_
  refine mS_letx (fun x1 => ?_)
  refine mS_steps (pc' := 8) (ls' := [.ref 1, mU, mU, mU, mU]) (st' := [.ref (mBIG + 0), .ref 1]) (mem' := (mk x1 y)) 2 rfl ?_
  refine mS_putt rfl ?_
  refine mS_letx (fun x2 => ?_)
  refine mS_steps (pc' := 13) (ls' := [.ref 1, mU, mU, mU, mU]) (st' := [.int (0 : Int32), .ref 1]) (mem' := (mk x2 y)) 2 rfl ?_
  refine mS_putx rfl rfl (by decide) rfl ?_
  refine mS_letx (fun x3 => ?_)
  refine mS_steps (pc' := 18) (ls' := [.ref 1, mU, mU, mU, mU]) (st' := [.int (0 : Int32), .ref 1]) (mem' := (mk x3 y)) 2 rfl ?_
  refine mS_putx rfl rfl (by decide) rfl ?_
  refine mS_letx (fun x4 => ?_)
  refine mS_steps (pc' := 23) (ls' := [.ref 1, mU, mU, mU, mU]) (st' := [.int (0 : Int32), .ref 1]) (mem' := (mk x4 y)) 2 rfl ?_
  refine mS_putx rfl rfl (by decide) rfl ?_
  refine mS_letx (fun x5 => ?_)
  refine mS_steps (pc' := 30) (ls' := [.ref 1, .int (0 : Int32), .int (0 : Int32), mU, mU]) (st' := []) (mem' := (mk x5 y)) 4 rfl ?_
  refine f_X5_split_L30_snd hfm y _ ?_ mF (0 : Int32) (0 : Int32) x5
  · intro x14
    refine mS_steps (pc' := 59) (ls' := [.ref 1, mU, mU, mU, mU]) (st' := [.ref (mBIG + x14.2.2), .int (x14.1 1 9)]) (mem' := (mk x14 y)) 4 rfl ?_
    refine mS_guard (fun hj => ?_)
    refine mS_bind (fun q15 hq15 => mS_call 25 1 [.ref (mBIG + x14.2.2)] [.int (x14.1 1 9)] rfl rfl rfl ⟨_, _, _, rfl, (m_rcvS hj)⟩ (Nat.le_of_ble_eq_true rfl) (Nat.le_of_ble_eq_true rfl) hq15 (f_J0_length_8abf5_snd x14.2.2 (mk x14 y)) ?_)
    refine mS_steps (pc' := 62) (ls' := [.ref 1, mU, mU, mU, mU]) (st' := [.int q15, .int (x14.1 1 9)]) (mem' := (mk x14 y)) 0 rfl ?_
    refine mS_ic3 rfl (fun _ => ?_) (fun _ => ?_)
    · refine mS_steps (pc' := 78) (ls' := [.ref 1, mU, mU, mU, mU]) (st' := [.int (0 : Int32)]) (mem' := (mk x14 y)) 1 rfl ?_
      exact mS_reti ⟨_, _, _, _, _, rfl, rfl⟩ rfl
    · refine mS_steps (pc' := 71) (ls' := [.ref 1, mU, mU, mU, mU]) (st' := [.int (x14.1 1 0), .int (1 : Int32), .ref 1]) (mem' := (mk x14 y)) 4 rfl ?_
      refine mS_bind (fun q16 hq16 => mS_call 26 3 [.ref 1, .int (1 : Int32), .int (x14.1 1 0)] [] rfl rfl rfl ⟨_, _, _, rfl, rfl⟩ (Nat.le_of_ble_eq_true rfl) (Nat.le_of_ble_eq_true rfl) hq16 (f_X5_failAt_snd (1 : Int32) (x14.1 1 0) x14 y) ?_)
      refine mS_steps (pc' := 78) (ls' := [.ref 1, mU, mU, mU, mU]) (st' := [.int q16.1]) (mem' := (mk q16.2 y)) 1 rfl ?_
      exact mS_reti ⟨_, _, _, _, _, rfl, rfl⟩ rfl
def f_X5_kindAt (p1 : Int32) (x : mX) : Option Int32 := (if p1 < 0 then (some (63 : Int32)) else (if (x.1 1 4) ≤ p1 then (some (63 : Int32)) else (if m_in p1 400 = true then (some (x.1 8 p1.toNatClampNeg)) else none)))
set_option maxRecDepth 20000 in
set_option maxHeartbeats 2000000 in
theorem f_X5_kindAt_snd {fm : Value} {L : Nat} {xs : Nat → Int32} (p1 : Int32) (x : mX) (y : mY) : mS fm L xs (fun r : Int32 => (.int r, (mk x y))) pg_X5_kindAt 0 (m_entry [.ref 1, .int p1] 2) [] (mk x y) ((f_X5_kindAt p1 x)) := by
  unfold f_X5_kindAt
  refine mS_steps (pc' := 0) (ls' := [.ref 1, .int p1]) (st' := []) (mem' := (mk x y)) 0 rfl ?_
  refine mS_steps (pc' := 1) (ls' := [.ref 1, .int p1]) (st' := [.int p1]) (mem' := (mk x y)) 1 rfl ?_
  refine mS_if2 rfl (fun _ => ?_) (fun _ => ?_)
  · refine mS_steps (pc' := 23) (ls' := [.ref 1, .int p1]) (st' := [.int (63 : Int32)]) (mem' := (mk x y)) 1 rfl ?_
    exact mS_reti ⟨_, _, _, _, _, rfl, rfl⟩ rfl
  · refine mS_steps (pc' := 9) (ls' := [.ref 1, .int p1]) (st' := [.int (x.1 1 4), .int p1]) (mem' := (mk x y)) 3 rfl ?_
    refine mS_ic3 rfl (fun _ => ?_) (fun _ => ?_)
    · refine mS_steps (pc' := 23) (ls' := [.ref 1, .int p1]) (st' := [.int (63 : Int32)]) (mem' := (mk x y)) 1 rfl ?_
      exact mS_reti ⟨_, _, _, _, _, rfl, rfl⟩ rfl
    · refine mS_steps (pc' := 17) (ls' := [.ref 1, .int p1]) (st' := [.int p1, .ref 8]) (mem' := (mk x y)) 3 rfl ?_
      refine mS_ald (b := 0) (n := 400) (z := (x.1 8 p1.toNatClampNeg)) rfl (by decide) rfl (by decide) rfl (fun _ => ?_)
      refine mS_steps (pc' := 23) (ls' := [.ref 1, .int p1]) (st' := [.int (x.1 8 p1.toNatClampNeg)]) (mem' := (mk x y)) 1 rfl ?_
      exact mS_reti ⟨_, _, _, _, _, rfl, rfl⟩ rfl
def f_X5_valueAt (p1 : Int32) (x : mX) : Option Int64 := (if p1 < 0 then (some (-1 : Int64)) else (if (x.1 1 4) ≤ p1 then (some (-1 : Int64)) else (if m_in p1 400 = true then (some (x.2.1 10 p1.toNatClampNeg)) else none)))
set_option maxRecDepth 20000 in
set_option maxHeartbeats 2000000 in
theorem f_X5_valueAt_snd {fm : Value} {L : Nat} {xs : Nat → Int32} (p1 : Int32) (x : mX) (y : mY) : mS fm L xs (fun r : Int64 => (.long r, (mk x y))) pg_X5_valueAt 0 (m_entry [.ref 1, .int p1] 2) [] (mk x y) ((f_X5_valueAt p1 x)) := by
  unfold f_X5_valueAt
  refine mS_steps (pc' := 0) (ls' := [.ref 1, .int p1]) (st' := []) (mem' := (mk x y)) 0 rfl ?_
  refine mS_steps (pc' := 1) (ls' := [.ref 1, .int p1]) (st' := [.int p1]) (mem' := (mk x y)) 1 rfl ?_
  refine mS_if2 rfl (fun _ => ?_) (fun _ => ?_)
  · refine mS_steps (pc' := 24) (ls' := [.ref 1, .int p1]) (st' := [.long (-1 : Int64)]) (mem' := (mk x y)) 1 rfl ?_
    exact mS_retl ⟨_, _, _, _, _, rfl⟩ rfl
  · refine mS_steps (pc' := 9) (ls' := [.ref 1, .int p1]) (st' := [.int (x.1 1 4), .int p1]) (mem' := (mk x y)) 3 rfl ?_
    refine mS_ic3 rfl (fun _ => ?_) (fun _ => ?_)
    · refine mS_steps (pc' := 24) (ls' := [.ref 1, .int p1]) (st' := [.long (-1 : Int64)]) (mem' := (mk x y)) 1 rfl ?_
      exact mS_retl ⟨_, _, _, _, _, rfl⟩ rfl
    · refine mS_steps (pc' := 17) (ls' := [.ref 1, .int p1]) (st' := [.int p1, .ref 10]) (mem' := (mk x y)) 3 rfl ?_
      refine mS_lald (b := 1) (n := 400) (z := (x.2.1 10 p1.toNatClampNeg)) rfl rfl (by decide) rfl (fun _ => ?_)
      refine mS_steps (pc' := 24) (ls' := [.ref 1, .int p1]) (st' := [.long (x.2.1 10 p1.toNatClampNeg)]) (mem' := (mk x y)) 1 rfl ?_
      exact mS_retl ⟨_, _, _, _, _, rfl⟩ rfl
def f_X5_find_L2 (a1 : Int64) : Nat → Int32 → mX → Option Int32
  | 0, _, _ => none
  | n + 1, a3, x => (if (8 : Int32) ≤ a3 then (some (-1 : Int32)) else (if (x.1 1 12) ≤ a3 then (f_X5_find_L2 a1 n (a3 + (1 : Int32)) x) else (if m_in a3 8 = true then (if (lg_cmp (x.2.1 11 a3.toNatClampNeg) a1) = 0 then (some a3) else (f_X5_find_L2 a1 n (a3 + (1 : Int32)) x)) else none)))
def f_X5_find (p1 : Int64) (x : mX) : Option Int32 := (f_X5_find_L2 p1 mF (0 : Int32) x)
set_option maxRecDepth 20000 in
set_option maxHeartbeats 2000000 in
theorem f_X5_find_L2_snd {fm : Value} {L : Nat} {xs : Nat → Int32} (a1 : Int64) (x : mX) (y : mY) : ∀ (n : Nat) (a3 : Int32), mS fm L xs (fun r : Int32 => (.int r, (mk x y))) pg_X5_find 2 [.ref 1, .long a1, mU, .int a3] [] (mk x y) (f_X5_find_L2 a1 n a3 x) := by
  intro n
  induction n with
  | zero => intro a3; exact mS_none
  | succ n ih =>
    intro a3
    rw [f_X5_find_L2]
    refine mS_steps (pc' := 5) (ls' := [.ref 1, .long a1, mU, .int a3]) (st' := [.int (8 : Int32), .int a3]) (mem' := (mk x y)) 2 rfl ?_
    refine mS_ic3 rfl (fun _ => ?_) (fun _ => ?_)
    · refine mS_steps (pc' := 36) (ls' := [.ref 1, .long a1, mU, .int a3]) (st' := [.int (-1 : Int32)]) (mem' := (mk x y)) 1 rfl ?_
      exact mS_reti ⟨_, _, _, _, _, rfl, rfl⟩ rfl
    · refine mS_steps (pc' := 13) (ls' := [.ref 1, .long a1, mU, .int a3]) (st' := [.int (x.1 1 12), .int a3]) (mem' := (mk x y)) 3 rfl ?_
      refine mS_ic3 rfl (fun _ => ?_) (fun _ => ?_)
      · refine mS_steps (pc' := 2) (ls' := [.ref 1, .long a1, mU, .int (a3 + (1 : Int32))]) (st' := []) (mem' := (mk x y)) 2 rfl ?_
        exact ih (a3 + (1 : Int32))
      · refine mS_steps (pc' := 21) (ls' := [.ref 1, .long a1, mU, .int a3]) (st' := [.int a3, .ref 11]) (mem' := (mk x y)) 3 rfl ?_
        refine mS_lald (b := 1) (n := 8) (z := (x.2.1 11 a3.toNatClampNeg)) rfl rfl (by decide) rfl (fun _ => ?_)
        refine mS_steps (pc' := 24) (ls' := [.ref 1, .long a1, mU, .int a3]) (st' := [.int (lg_cmp (x.2.1 11 a3.toNatClampNeg) a1)]) (mem' := (mk x y)) 2 rfl ?_
        refine mS_if1 rfl (fun _ => ?_) (fun _ => ?_)
        · refine mS_steps (pc' := 28) (ls' := [.ref 1, .long a1, mU, .int a3]) (st' := [.int a3]) (mem' := (mk x y)) 1 rfl ?_
          exact mS_reti ⟨_, _, _, _, _, rfl, rfl⟩ rfl
        · refine mS_steps (pc' := 2) (ls' := [.ref 1, .long a1, mU, .int (a3 + (1 : Int32))]) (st' := []) (mem' := (mk x y)) 2 rfl ?_
          exact ih (a3 + (1 : Int32))
set_option maxRecDepth 20000 in
set_option maxHeartbeats 2000000 in
theorem f_X5_find_snd {fm : Value} {L : Nat} {xs : Nat → Int32} (p1 : Int64) (x : mX) (y : mY) : mS fm L xs (fun r : Int32 => (.int r, (mk x y))) pg_X5_find 0 (m_entry [.ref 1, .long p1] 4) [] (mk x y) ((f_X5_find p1 x)) := by
  unfold f_X5_find
  refine mS_steps (pc' := 0) (ls' := [.ref 1, .long p1, mU, mU]) (st' := []) (mem' := (mk x y)) 0 rfl ?_
  refine mS_steps (pc' := 2) (ls' := [.ref 1, .long p1, mU, .int (0 : Int32)]) (st' := []) (mem' := (mk x y)) 2 rfl ?_
  refine f_X5_find_L2_snd p1 x y mF (0 : Int32)
def f_X5_mark (r0 : Nat) (p1 : Int32) (p2 : Int32) (x : mX) : Option mX := (if p1 < 0 then (some x) else (if p2 < 0 then (some x) else (if p1 = p2 then (some x) else (if (8 : Int32) ≤ p1 then (some x) else (if (8 : Int32) ≤ p2 then (some x) else (if m_in p1 8 = true then (if m_in p1 8 = true then (m_let (m_xs x r0 p1.toNatClampNeg ((x.1 r0 p1.toNatClampNeg) ||| ((1 : Int32) <<< (p2 &&& 31)))) fun x1 => (if m_in p2 8 = true then (if m_in p2 8 = true then (m_let (m_xs x1 r0 p2.toNatClampNeg ((x1.1 r0 p2.toNatClampNeg) ||| ((1 : Int32) <<< (p1 &&& 31)))) fun x2 => (some x2)) else none) else none)) else none) else none))))))
set_option maxRecDepth 20000 in
set_option maxHeartbeats 2000000 in
theorem f_X5_mark_12_snd {fm : Value} {L : Nat} {xs : Nat → Int32} (p1 : Int32) (p2 : Int32) (x : mX) (y : mY) : mS fm L xs (fun r : mX => (mU, mk r y)) pg_X5_mark 0 (m_entry [.ref 12, .int p1, .int p2] 3) [] (mk x y) ((f_X5_mark 12 p1 p2 x)) := by
  unfold f_X5_mark
  refine mS_steps (pc' := 0) (ls' := [.ref 12, .int p1, .int p2]) (st' := []) (mem' := (mk x y)) 0 rfl ?_
  refine mS_steps (pc' := 1) (ls' := [.ref 12, .int p1, .int p2]) (st' := [.int p1]) (mem' := (mk x y)) 1 rfl ?_
  refine mS_if2 rfl (fun _ => ?_) (fun _ => ?_)
  · exact mS_retv ⟨_, _, _, _, _, rfl⟩ rfl
  · refine mS_steps (pc' := 5) (ls' := [.ref 12, .int p1, .int p2]) (st' := [.int p2]) (mem' := (mk x y)) 1 rfl ?_
    refine mS_if2 rfl (fun _ => ?_) (fun _ => ?_)
    · exact mS_retv ⟨_, _, _, _, _, rfl⟩ rfl
    · refine mS_steps (pc' := 10) (ls' := [.ref 12, .int p1, .int p2]) (st' := [.int p2, .int p1]) (mem' := (mk x y)) 2 rfl ?_
      refine mS_ic0 rfl (fun _ => ?_) (fun _ => ?_)
      · exact mS_retv ⟨_, _, _, _, _, rfl⟩ rfl
      · refine mS_steps (pc' := 16) (ls' := [.ref 12, .int p1, .int p2]) (st' := [.int (8 : Int32), .int p1]) (mem' := (mk x y)) 3 rfl ?_
        refine mS_ic3 rfl (fun _ => ?_) (fun _ => ?_)
        · exact mS_retv ⟨_, _, _, _, _, rfl⟩ rfl
        · refine mS_steps (pc' := 22) (ls' := [.ref 12, .int p1, .int p2]) (st' := [.int (8 : Int32), .int p2]) (mem' := (mk x y)) 3 rfl ?_
          refine mS_ic3 rfl (fun _ => ?_) (fun _ => ?_)
          · exact mS_retv ⟨_, _, _, _, _, rfl⟩ rfl
          · refine mS_steps (pc' := 28) (ls' := [.ref 12, .int p1, .int p2]) (st' := [.int p1, .ref 12, .int p1, .ref 12]) (mem' := (mk x y)) 3 rfl ?_
            refine mS_ald (b := 0) (n := 8) (z := (x.1 12 p1.toNatClampNeg)) rfl (by decide) rfl (by decide) rfl (fun _ => ?_)
            refine mS_steps (pc' := 33) (ls' := [.ref 12, .int p1, .int p2]) (st' := [.int ((x.1 12 p1.toNatClampNeg) ||| ((1 : Int32) <<< (p2 &&& 31))), .int p1, .ref 12]) (mem' := (mk x y)) 4 rfl ?_
            refine mS_ast0x (n := 8) rfl rfl (by decide) (fun _ => ?_)
            refine mS_letx (fun x1 => ?_)
            refine mS_steps (pc' := 37) (ls' := [.ref 12, .int p1, .int p2]) (st' := [.int p2, .ref 12, .int p2, .ref 12]) (mem' := (mk x1 y)) 3 rfl ?_
            refine mS_ald (b := 0) (n := 8) (z := (x1.1 12 p2.toNatClampNeg)) rfl (by decide) rfl (by decide) rfl (fun _ => ?_)
            refine mS_steps (pc' := 42) (ls' := [.ref 12, .int p1, .int p2]) (st' := [.int ((x1.1 12 p2.toNatClampNeg) ||| ((1 : Int32) <<< (p1 &&& 31))), .int p2, .ref 12]) (mem' := (mk x1 y)) 4 rfl ?_
            refine mS_ast0x (n := 8) rfl rfl (by decide) (fun _ => ?_)
            refine mS_letx (fun x2 => ?_)
            exact mS_retv ⟨_, _, _, _, _, rfl⟩ rfl
set_option maxRecDepth 20000 in
set_option maxHeartbeats 2000000 in
theorem f_X5_mark_13_snd {fm : Value} {L : Nat} {xs : Nat → Int32} (p1 : Int32) (p2 : Int32) (x : mX) (y : mY) : mS fm L xs (fun r : mX => (mU, mk r y)) pg_X5_mark 0 (m_entry [.ref 13, .int p1, .int p2] 3) [] (mk x y) ((f_X5_mark 13 p1 p2 x)) := by
  unfold f_X5_mark
  refine mS_steps (pc' := 0) (ls' := [.ref 13, .int p1, .int p2]) (st' := []) (mem' := (mk x y)) 0 rfl ?_
  refine mS_steps (pc' := 1) (ls' := [.ref 13, .int p1, .int p2]) (st' := [.int p1]) (mem' := (mk x y)) 1 rfl ?_
  refine mS_if2 rfl (fun _ => ?_) (fun _ => ?_)
  · exact mS_retv ⟨_, _, _, _, _, rfl⟩ rfl
  · refine mS_steps (pc' := 5) (ls' := [.ref 13, .int p1, .int p2]) (st' := [.int p2]) (mem' := (mk x y)) 1 rfl ?_
    refine mS_if2 rfl (fun _ => ?_) (fun _ => ?_)
    · exact mS_retv ⟨_, _, _, _, _, rfl⟩ rfl
    · refine mS_steps (pc' := 10) (ls' := [.ref 13, .int p1, .int p2]) (st' := [.int p2, .int p1]) (mem' := (mk x y)) 2 rfl ?_
      refine mS_ic0 rfl (fun _ => ?_) (fun _ => ?_)
      · exact mS_retv ⟨_, _, _, _, _, rfl⟩ rfl
      · refine mS_steps (pc' := 16) (ls' := [.ref 13, .int p1, .int p2]) (st' := [.int (8 : Int32), .int p1]) (mem' := (mk x y)) 3 rfl ?_
        refine mS_ic3 rfl (fun _ => ?_) (fun _ => ?_)
        · exact mS_retv ⟨_, _, _, _, _, rfl⟩ rfl
        · refine mS_steps (pc' := 22) (ls' := [.ref 13, .int p1, .int p2]) (st' := [.int (8 : Int32), .int p2]) (mem' := (mk x y)) 3 rfl ?_
          refine mS_ic3 rfl (fun _ => ?_) (fun _ => ?_)
          · exact mS_retv ⟨_, _, _, _, _, rfl⟩ rfl
          · refine mS_steps (pc' := 28) (ls' := [.ref 13, .int p1, .int p2]) (st' := [.int p1, .ref 13, .int p1, .ref 13]) (mem' := (mk x y)) 3 rfl ?_
            refine mS_ald (b := 0) (n := 8) (z := (x.1 13 p1.toNatClampNeg)) rfl (by decide) rfl (by decide) rfl (fun _ => ?_)
            refine mS_steps (pc' := 33) (ls' := [.ref 13, .int p1, .int p2]) (st' := [.int ((x.1 13 p1.toNatClampNeg) ||| ((1 : Int32) <<< (p2 &&& 31))), .int p1, .ref 13]) (mem' := (mk x y)) 4 rfl ?_
            refine mS_ast0x (n := 8) rfl rfl (by decide) (fun _ => ?_)
            refine mS_letx (fun x1 => ?_)
            refine mS_steps (pc' := 37) (ls' := [.ref 13, .int p1, .int p2]) (st' := [.int p2, .ref 13, .int p2, .ref 13]) (mem' := (mk x1 y)) 3 rfl ?_
            refine mS_ald (b := 0) (n := 8) (z := (x1.1 13 p2.toNatClampNeg)) rfl (by decide) rfl (by decide) rfl (fun _ => ?_)
            refine mS_steps (pc' := 42) (ls' := [.ref 13, .int p1, .int p2]) (st' := [.int ((x1.1 13 p2.toNatClampNeg) ||| ((1 : Int32) <<< (p1 &&& 31))), .int p2, .ref 13]) (mem' := (mk x1 y)) 4 rfl ?_
            refine mS_ast0x (n := 8) rfl rfl (by decide) (fun _ => ?_)
            refine mS_letx (fun x2 => ?_)
            exact mS_retv ⟨_, _, _, _, _, rfl⟩ rfl
def f_X5_gather_L7 : Nat → Int32 → mX → (mX → Option mX) → Option mX
  | 0, _, _, _ => none
  | n + 1, a1, x, k81 => (if (x.1 1 4) ≤ a1 then (k81 x) else ((f_X5_kindAt a1 x).bind fun q2 => (if q2 = (112 : Int32) then (if (8 : Int32) ≤ (x.1 1 12) then (f_X5_gather_L7 n (a1 + (1 : Int32)) x k81) else ((f_X5_valueAt (a1 + (1 : Int32)) x).bind fun q3 => ((f_X5_find q3 x).bind fun q4 => (if q4 = (-1 : Int32) then ((f_X5_valueAt (a1 + (1 : Int32)) x).bind fun q5 => (if m_in (x.1 1 12) 8 = true then (m_let (m_xl x 11 (x.1 1 12).toNatClampNeg q5) fun x6 => (m_let (m_xs x6 1 12 ((x6.1 1 12) + (1 : Int32))) fun x7 => (f_X5_gather_L7 n (a1 + (1 : Int32)) x7 k81))) else none)) else (f_X5_gather_L7 n (a1 + (1 : Int32)) x k81))))) else (f_X5_gather_L7 n (a1 + (1 : Int32)) x k81))))
def f_X5_gather_L88 : Nat → Int32 → mX → (mX → Option mX) → Option mX
  | 0, _, _, _ => none
  | n + 1, a1, x, k114 => (if (8 : Int32) ≤ a1 then (k114 x) else (if m_in a1 8 = true then (m_let (m_xs x 12 a1.toNatClampNeg (0 : Int32)) fun x10 => (if m_in a1 8 = true then (m_let (m_xs x10 13 a1.toNatClampNeg (0 : Int32)) fun x11 => (f_X5_gather_L88 n (a1 + (1 : Int32)) x11 k114)) else none)) else none))
def f_X5_gather_L116 : Nat → Int32 → mX → Option mX
  | 0, _, _ => none
  | n + 1, a1, x => (if (x.1 1 4) ≤ a1 then (some x) else ((f_X5_kindAt a1 x).bind fun q13 => (if q13 = (108 : Int32) then ((f_X5_valueAt (a1 + (1 : Int32)) x).bind fun q14 => ((f_X5_find q14 x).bind fun q15 => ((f_X5_valueAt (a1 + (2 : Int32)) x).bind fun q16 => ((f_X5_find q16 x).bind fun q17 => ((f_X5_mark 12 q15 q17 x).bind fun q18 => (f_X5_gather_L116 n (a1 + (1 : Int32)) q18)))))) else (f_X5_gather_L116 n (a1 + (1 : Int32)) x))))
def f_X5_gather (x : mX) : Option mX := (m_let (m_xs x 1 12 (0 : Int32)) fun x1 => (f_X5_gather_L7 mF (0 : Int32) x1 (fun x8 => (m_let (m_xs x8 1 16 (0 : Int32)) fun x9 => (f_X5_gather_L88 mF (0 : Int32) x9 (fun x12 => (f_X5_gather_L116 mF (0 : Int32) x12)))))))
set_option maxRecDepth 20000 in
set_option maxHeartbeats 2000000 in
theorem f_X5_gather_L7_snd {fm : Value} {L : Nat} {xs : Nat → Int32} (y : mY) (k81 : mX → Option mX) (hk81 : ∀ (z0 : mX), mS fm L xs (fun r : mX => (mU, mk r y)) pg_X5_gather 81 [.ref 1, mU] [] (mk z0 y) (k81 z0)) : ∀ (n : Nat) (a1 : Int32) (x : mX), mS fm L xs (fun r : mX => (mU, mk r y)) pg_X5_gather 7 [.ref 1, .int a1] [] (mk x y) (f_X5_gather_L7 n a1 x k81) := by
  intro n
  induction n with
  | zero => intro a1 x; exact mS_none
  | succ n ih =>
    intro a1 x
    rw [f_X5_gather_L7]
    refine mS_steps (pc' := 12) (ls' := [.ref 1, .int a1]) (st' := [.int (x.1 1 4), .int a1]) (mem' := (mk x y)) 3 rfl ?_
    refine mS_ic3 rfl (fun _ => ?_) (fun _ => ?_)
    · refine mS_forget [.ref 1, mU] ⟨Or.inr rfl, Or.inl rfl, trivial⟩ ?_
      exact hk81 x
    · refine mS_steps (pc' := 17) (ls' := [.ref 1, .int a1]) (st' := [.int a1, .ref 1]) (mem' := (mk x y)) 2 rfl ?_
      refine mS_bind (fun q2 hq2 => mS_call 44 2 [.ref 1, .int a1] [] rfl rfl rfl ⟨_, _, _, rfl, rfl⟩ (Nat.le_of_ble_eq_true rfl) (Nat.le_of_ble_eq_true rfl) hq2 (f_X5_kindAt_snd a1 x y) ?_)
      refine mS_steps (pc' := 22) (ls' := [.ref 1, .int a1]) (st' := [.int (112 : Int32), .int q2]) (mem' := (mk x y)) 1 rfl ?_
      refine mS_ic1 rfl (fun _ => ?_) (fun _ => ?_)
      · refine mS_steps (pc' := 31) (ls' := [.ref 1, .int a1]) (st' := [.int (8 : Int32), .int (x.1 1 12)]) (mem' := (mk x y)) 3 rfl ?_
        refine mS_ic3 rfl (fun _ => ?_) (fun _ => ?_)
        · refine mS_steps (pc' := 7) (ls' := [.ref 1, .int (a1 + (1 : Int32))]) (st' := []) (mem' := (mk x y)) 2 rfl ?_
          exact ih (a1 + (1 : Int32)) x
        · refine mS_steps (pc' := 39) (ls' := [.ref 1, .int a1]) (st' := [.int (a1 + (1 : Int32)), .ref 1, .ref 1]) (mem' := (mk x y)) 5 rfl ?_
          refine mS_bind (fun q3 hq3 => mS_call 45 2 [.ref 1, .int (a1 + (1 : Int32))] [.ref 1] rfl rfl rfl ⟨_, _, _, rfl, rfl⟩ (Nat.le_of_ble_eq_true rfl) (Nat.le_of_ble_eq_true rfl) hq3 (f_X5_valueAt_snd (a1 + (1 : Int32)) x y) ?_)
          refine mS_steps (pc' := 42) (ls' := [.ref 1, .int a1]) (st' := [.long q3, .ref 1]) (mem' := (mk x y)) 0 rfl ?_
          refine mS_bind (fun q4 hq4 => mS_call 46 2 [.ref 1, .long q3] [] rfl rfl rfl ⟨_, _, _, rfl, rfl⟩ (Nat.le_of_ble_eq_true rfl) (Nat.le_of_ble_eq_true rfl) hq4 (f_X5_find_snd q3 x y) ?_)
          refine mS_steps (pc' := 46) (ls' := [.ref 1, .int a1]) (st' := [.int (-1 : Int32), .int q4]) (mem' := (mk x y)) 1 rfl ?_
          refine mS_ic1 rfl (fun _ => ?_) (fun _ => ?_)
          · refine mS_steps (pc' := 61) (ls' := [.ref 1, .int a1]) (st' := [.int (a1 + (1 : Int32)), .ref 1, .int (x.1 1 12), .ref 11]) (mem' := (mk x y)) 8 rfl ?_
            refine mS_bind (fun q5 hq5 => mS_call 45 2 [.ref 1, .int (a1 + (1 : Int32))] [.int (x.1 1 12), .ref 11] rfl rfl rfl ⟨_, _, _, rfl, rfl⟩ (Nat.le_of_ble_eq_true rfl) (Nat.le_of_ble_eq_true rfl) hq5 (f_X5_valueAt_snd (a1 + (1 : Int32)) x y) ?_)
            refine mS_steps (pc' := 64) (ls' := [.ref 1, .int a1]) (st' := [.long q5, .int (x.1 1 12), .ref 11]) (mem' := (mk x y)) 0 rfl ?_
            refine mS_lastorex (n := 8) rfl rfl (by decide) (fun _ => ?_)
            refine mS_letx (fun x6 => ?_)
            refine mS_steps (pc' := 72) (ls' := [.ref 1, .int a1]) (st' := [.int ((x6.1 1 12) + (1 : Int32)), .ref 1]) (mem' := (mk x6 y)) 5 rfl ?_
            refine mS_putx rfl rfl (by decide) rfl ?_
            refine mS_letx (fun x7 => ?_)
            refine mS_steps (pc' := 7) (ls' := [.ref 1, .int (a1 + (1 : Int32))]) (st' := []) (mem' := (mk x7 y)) 2 rfl ?_
            exact ih (a1 + (1 : Int32)) x7
          · refine mS_steps (pc' := 7) (ls' := [.ref 1, .int (a1 + (1 : Int32))]) (st' := []) (mem' := (mk x y)) 2 rfl ?_
            exact ih (a1 + (1 : Int32)) x
      · refine mS_steps (pc' := 7) (ls' := [.ref 1, .int (a1 + (1 : Int32))]) (st' := []) (mem' := (mk x y)) 2 rfl ?_
        exact ih (a1 + (1 : Int32)) x
set_option maxRecDepth 20000 in
set_option maxHeartbeats 2000000 in
theorem f_X5_gather_L88_snd {fm : Value} {L : Nat} {xs : Nat → Int32} (y : mY) (k114 : mX → Option mX) (hk114 : ∀ (z0 : mX), mS fm L xs (fun r : mX => (mU, mk r y)) pg_X5_gather 114 [.ref 1, mU] [] (mk z0 y) (k114 z0)) : ∀ (n : Nat) (a1 : Int32) (x : mX), mS fm L xs (fun r : mX => (mU, mk r y)) pg_X5_gather 88 [.ref 1, .int a1] [] (mk x y) (f_X5_gather_L88 n a1 x k114) := by
  intro n
  induction n with
  | zero => intro a1 x; exact mS_none
  | succ n ih =>
    intro a1 x
    rw [f_X5_gather_L88]
    refine mS_steps (pc' := 91) (ls' := [.ref 1, .int a1]) (st' := [.int (8 : Int32), .int a1]) (mem' := (mk x y)) 2 rfl ?_
    refine mS_ic3 rfl (fun _ => ?_) (fun _ => ?_)
    · refine mS_forget [.ref 1, mU] ⟨Or.inr rfl, Or.inl rfl, trivial⟩ ?_
      exact hk114 x
    · refine mS_steps (pc' := 100) (ls' := [.ref 1, .int a1]) (st' := [.int (0 : Int32), .int a1, .ref 12]) (mem' := (mk x y)) 4 rfl ?_
      refine mS_ast0x (n := 8) rfl rfl (by decide) (fun _ => ?_)
      refine mS_letx (fun x10 => ?_)
      refine mS_steps (pc' := 107) (ls' := [.ref 1, .int a1]) (st' := [.int (0 : Int32), .int a1, .ref 13]) (mem' := (mk x10 y)) 4 rfl ?_
      refine mS_ast0x (n := 8) rfl rfl (by decide) (fun _ => ?_)
      refine mS_letx (fun x11 => ?_)
      refine mS_steps (pc' := 88) (ls' := [.ref 1, .int (a1 + (1 : Int32))]) (st' := []) (mem' := (mk x11 y)) 2 rfl ?_
      exact ih (a1 + (1 : Int32)) x11
set_option maxRecDepth 20000 in
set_option maxHeartbeats 2000000 in
theorem f_X5_gather_L116_snd {fm : Value} {L : Nat} {xs : Nat → Int32} (y : mY) : ∀ (n : Nat) (a1 : Int32) (x : mX), mS fm L xs (fun r : mX => (mU, mk r y)) pg_X5_gather 116 [.ref 1, .int a1] [] (mk x y) (f_X5_gather_L116 n a1 x) := by
  intro n
  induction n with
  | zero => intro a1 x; exact mS_none
  | succ n ih =>
    intro a1 x
    rw [f_X5_gather_L116]
    refine mS_steps (pc' := 121) (ls' := [.ref 1, .int a1]) (st' := [.int (x.1 1 4), .int a1]) (mem' := (mk x y)) 3 rfl ?_
    refine mS_ic3 rfl (fun _ => ?_) (fun _ => ?_)
    · exact mS_retv ⟨_, _, _, _, _, rfl⟩ rfl
    · refine mS_steps (pc' := 126) (ls' := [.ref 1, .int a1]) (st' := [.int a1, .ref 1]) (mem' := (mk x y)) 2 rfl ?_
      refine mS_bind (fun q13 hq13 => mS_call 44 2 [.ref 1, .int a1] [] rfl rfl rfl ⟨_, _, _, rfl, rfl⟩ (Nat.le_of_ble_eq_true rfl) (Nat.le_of_ble_eq_true rfl) hq13 (f_X5_kindAt_snd a1 x y) ?_)
      refine mS_steps (pc' := 131) (ls' := [.ref 1, .int a1]) (st' := [.int (108 : Int32), .int q13]) (mem' := (mk x y)) 1 rfl ?_
      refine mS_ic1 rfl (fun _ => ?_) (fun _ => ?_)
      · refine mS_steps (pc' := 143) (ls' := [.ref 1, .int a1]) (st' := [.int (a1 + (1 : Int32)), .ref 1, .ref 1, .ref 12]) (mem' := (mk x y)) 7 rfl ?_
        refine mS_bind (fun q14 hq14 => mS_call 45 2 [.ref 1, .int (a1 + (1 : Int32))] [.ref 1, .ref 12] rfl rfl rfl ⟨_, _, _, rfl, rfl⟩ (Nat.le_of_ble_eq_true rfl) (Nat.le_of_ble_eq_true rfl) hq14 (f_X5_valueAt_snd (a1 + (1 : Int32)) x y) ?_)
        refine mS_steps (pc' := 146) (ls' := [.ref 1, .int a1]) (st' := [.long q14, .ref 1, .ref 12]) (mem' := (mk x y)) 0 rfl ?_
        refine mS_bind (fun q15 hq15 => mS_call 46 2 [.ref 1, .long q14] [.ref 12] rfl rfl rfl ⟨_, _, _, rfl, rfl⟩ (Nat.le_of_ble_eq_true rfl) (Nat.le_of_ble_eq_true rfl) hq15 (f_X5_find_snd q14 x y) ?_)
        refine mS_steps (pc' := 154) (ls' := [.ref 1, .int a1]) (st' := [.int (a1 + (2 : Int32)), .ref 1, .ref 1, .int q15, .ref 12]) (mem' := (mk x y)) 5 rfl ?_
        refine mS_bind (fun q16 hq16 => mS_call 45 2 [.ref 1, .int (a1 + (2 : Int32))] [.ref 1, .int q15, .ref 12] rfl rfl rfl ⟨_, _, _, rfl, rfl⟩ (Nat.le_of_ble_eq_true rfl) (Nat.le_of_ble_eq_true rfl) hq16 (f_X5_valueAt_snd (a1 + (2 : Int32)) x y) ?_)
        refine mS_steps (pc' := 157) (ls' := [.ref 1, .int a1]) (st' := [.long q16, .ref 1, .int q15, .ref 12]) (mem' := (mk x y)) 0 rfl ?_
        refine mS_bind (fun q17 hq17 => mS_call 46 2 [.ref 1, .long q16] [.int q15, .ref 12] rfl rfl rfl ⟨_, _, _, rfl, rfl⟩ (Nat.le_of_ble_eq_true rfl) (Nat.le_of_ble_eq_true rfl) hq17 (f_X5_find_snd q16 x y) ?_)
        refine mS_steps (pc' := 160) (ls' := [.ref 1, .int a1]) (st' := [.int q17, .int q15, .ref 12]) (mem' := (mk x y)) 0 rfl ?_
        refine mS_bind (fun q18 hq18 => mS_call 47 3 [.ref 12, .int q15, .int q17] [] rfl rfl rfl ⟨_, _, _, rfl, rfl⟩ (Nat.le_of_ble_eq_true rfl) (Nat.le_of_ble_eq_true rfl) hq18 (f_X5_mark_12_snd q15 q17 x y) ?_)
        refine mS_steps (pc' := 116) (ls' := [.ref 1, .int (a1 + (1 : Int32))]) (st' := []) (mem' := (mk q18 y)) 2 rfl ?_
        exact ih (a1 + (1 : Int32)) q18
      · refine mS_steps (pc' := 116) (ls' := [.ref 1, .int (a1 + (1 : Int32))]) (st' := []) (mem' := (mk x y)) 2 rfl ?_
        exact ih (a1 + (1 : Int32)) x
set_option maxRecDepth 20000 in
set_option maxHeartbeats 2000000 in
theorem f_X5_gather_snd {fm : Value} {L : Nat} {xs : Nat → Int32} (x : mX) (y : mY) : mS fm L xs (fun r : mX => (mU, mk r y)) pg_X5_gather 0 (m_entry [.ref 1] 2) [] (mk x y) ((f_X5_gather x)) := by
  unfold f_X5_gather
  refine mS_steps (pc' := 0) (ls' := [.ref 1, mU]) (st' := []) (mem' := (mk x y)) 0 rfl ?_
  refine mS_steps (pc' := 2) (ls' := [.ref 1, mU]) (st' := [.int (0 : Int32), .ref 1]) (mem' := (mk x y)) 2 rfl ?_
  refine mS_putx rfl rfl (by decide) rfl ?_
  refine mS_letx (fun x1 => ?_)
  refine mS_steps (pc' := 7) (ls' := [.ref 1, .int (0 : Int32)]) (st' := []) (mem' := (mk x1 y)) 2 rfl ?_
  refine f_X5_gather_L7_snd y _ ?_ mF (0 : Int32) x1
  · intro x8
    refine mS_steps (pc' := 83) (ls' := [.ref 1, mU]) (st' := [.int (0 : Int32), .ref 1]) (mem' := (mk x8 y)) 2 rfl ?_
    refine mS_putx rfl rfl (by decide) rfl ?_
    refine mS_letx (fun x9 => ?_)
    refine mS_steps (pc' := 88) (ls' := [.ref 1, .int (0 : Int32)]) (st' := []) (mem' := (mk x9 y)) 2 rfl ?_
    refine f_X5_gather_L88_snd y _ ?_ mF (0 : Int32) x9
    · intro x12
      refine mS_steps (pc' := 116) (ls' := [.ref 1, .int (0 : Int32)]) (st' := []) (mem' := (mk x12 y)) 2 rfl ?_
      refine f_X5_gather_L116_snd y mF (0 : Int32) x12
def f_X6_clear (x : mX) : mX := (m_let (m_xs x 2 0 (0 : Int32)) fun x1 => (m_let (m_xs x1 2 1 (0 : Int32)) fun x2 => (m_let (m_xs x2 2 2 (0 : Int32)) fun x3 => (m_let (m_xs x3 2 3 (0 : Int32)) fun x4 => (m_let (m_xs x4 2 4 (0 : Int32)) fun x5 => (m_let (m_xs x5 2 5 (0 : Int32)) fun x6 => (m_let (m_xs x6 2 6 (0 : Int32)) fun x7 => (m_let (m_xs x7 2 7 (0 : Int32)) fun x8 => (m_let (m_xs x8 2 8 (0 : Int32)) fun x9 => (m_let (m_xs x9 2 9 (0 : Int32)) fun x10 => x10))))))))))
set_option maxRecDepth 20000 in
set_option maxHeartbeats 2000000 in
theorem f_X6_clear_snd {fm : Value} {L : Nat} {xs : Nat → Int32} (x : mX) (y : mY) : mS fm L xs (fun r : mX => (mU, mk r y)) pg_X6_clear 0 (m_entry [.ref 2] 1) [] (mk x y) (some (f_X6_clear x)) := by
  unfold f_X6_clear
  refine mS_steps (pc' := 0) (ls' := [.ref 2]) (st' := []) (mem' := (mk x y)) 0 rfl ?_
  refine mS_steps (pc' := 2) (ls' := [.ref 2]) (st' := [.int (0 : Int32), .ref 2]) (mem' := (mk x y)) 2 rfl ?_
  refine mS_putx rfl rfl (by decide) rfl ?_
  refine mS_letxT (fun x1 => ?_)
  refine mS_steps (pc' := 7) (ls' := [.ref 2]) (st' := [.int (0 : Int32), .ref 2]) (mem' := (mk x1 y)) 2 rfl ?_
  refine mS_putx rfl rfl (by decide) rfl ?_
  refine mS_letxT (fun x2 => ?_)
  refine mS_steps (pc' := 12) (ls' := [.ref 2]) (st' := [.int (0 : Int32), .ref 2]) (mem' := (mk x2 y)) 2 rfl ?_
  refine mS_putx rfl rfl (by decide) rfl ?_
  refine mS_letxT (fun x3 => ?_)
  refine mS_steps (pc' := 17) (ls' := [.ref 2]) (st' := [.int (0 : Int32), .ref 2]) (mem' := (mk x3 y)) 2 rfl ?_
  refine mS_putx rfl rfl (by decide) rfl ?_
  refine mS_letxT (fun x4 => ?_)
  refine mS_steps (pc' := 22) (ls' := [.ref 2]) (st' := [.int (0 : Int32), .ref 2]) (mem' := (mk x4 y)) 2 rfl ?_
  refine mS_putx rfl rfl (by decide) rfl ?_
  refine mS_letxT (fun x5 => ?_)
  refine mS_steps (pc' := 27) (ls' := [.ref 2]) (st' := [.int (0 : Int32), .ref 2]) (mem' := (mk x5 y)) 2 rfl ?_
  refine mS_putx rfl rfl (by decide) rfl ?_
  refine mS_letxT (fun x6 => ?_)
  refine mS_steps (pc' := 32) (ls' := [.ref 2]) (st' := [.int (0 : Int32), .ref 2]) (mem' := (mk x6 y)) 2 rfl ?_
  refine mS_putx rfl rfl (by decide) rfl ?_
  refine mS_letxT (fun x7 => ?_)
  refine mS_steps (pc' := 37) (ls' := [.ref 2]) (st' := [.int (0 : Int32), .ref 2]) (mem' := (mk x7 y)) 2 rfl ?_
  refine mS_putx rfl rfl (by decide) rfl ?_
  refine mS_letxT (fun x8 => ?_)
  refine mS_steps (pc' := 42) (ls' := [.ref 2]) (st' := [.int (0 : Int32), .ref 2]) (mem' := (mk x8 y)) 2 rfl ?_
  refine mS_putx rfl rfl (by decide) rfl ?_
  refine mS_letxT (fun x9 => ?_)
  refine mS_steps (pc' := 47) (ls' := [.ref 2]) (st' := [.int (0 : Int32), .ref 2]) (mem' := (mk x9 y)) 2 rfl ?_
  refine mS_putx rfl rfl (by decide) rfl ?_
  refine mS_letxT (fun x10 => ?_)
  exact mS_retv ⟨_, _, _, _, _, rfl⟩ rfl
def f_X5_placeAt (p1 : Int32) (x : mX) : Option Int32 := (if p1 < 0 then (some (-1 : Int32)) else (if (x.1 1 4) ≤ p1 then (some (-1 : Int32)) else (if m_in p1 400 = true then (some (x.1 9 p1.toNatClampNeg)) else none)))
set_option maxRecDepth 20000 in
set_option maxHeartbeats 2000000 in
theorem f_X5_placeAt_snd {fm : Value} {L : Nat} {xs : Nat → Int32} (p1 : Int32) (x : mX) (y : mY) : mS fm L xs (fun r : Int32 => (.int r, (mk x y))) pg_X5_placeAt 0 (m_entry [.ref 1, .int p1] 2) [] (mk x y) ((f_X5_placeAt p1 x)) := by
  unfold f_X5_placeAt
  refine mS_steps (pc' := 0) (ls' := [.ref 1, .int p1]) (st' := []) (mem' := (mk x y)) 0 rfl ?_
  refine mS_steps (pc' := 1) (ls' := [.ref 1, .int p1]) (st' := [.int p1]) (mem' := (mk x y)) 1 rfl ?_
  refine mS_if2 rfl (fun _ => ?_) (fun _ => ?_)
  · refine mS_steps (pc' := 22) (ls' := [.ref 1, .int p1]) (st' := [.int (-1 : Int32)]) (mem' := (mk x y)) 1 rfl ?_
    exact mS_reti ⟨_, _, _, _, _, rfl, rfl⟩ rfl
  · refine mS_steps (pc' := 9) (ls' := [.ref 1, .int p1]) (st' := [.int (x.1 1 4), .int p1]) (mem' := (mk x y)) 3 rfl ?_
    refine mS_ic3 rfl (fun _ => ?_) (fun _ => ?_)
    · refine mS_steps (pc' := 22) (ls' := [.ref 1, .int p1]) (st' := [.int (-1 : Int32)]) (mem' := (mk x y)) 1 rfl ?_
      exact mS_reti ⟨_, _, _, _, _, rfl, rfl⟩ rfl
    · refine mS_steps (pc' := 17) (ls' := [.ref 1, .int p1]) (st' := [.int p1, .ref 9]) (mem' := (mk x y)) 3 rfl ?_
      refine mS_ald (b := 0) (n := 400) (z := (x.1 9 p1.toNatClampNeg)) rfl (by decide) rfl (by decide) rfl (fun _ => ?_)
      refine mS_steps (pc' := 22) (ls' := [.ref 1, .int p1]) (st' := [.int (x.1 9 p1.toNatClampNeg)]) (mem' := (mk x y)) 1 rfl ?_
      exact mS_reti ⟨_, _, _, _, _, rfl, rfl⟩ rfl
def f_X5_tellPost (p1 : Int32) (x : mX) : Option (Int32 × mX) := ((f_X5_valueAt p1 x).bind fun q1 => ((f_X5_find q1 x).bind fun q2 => (if q2 = (x.1 2 0) then (m_let (m_xs x 2 0 ((x.1 2 0) + (1 : Int32))) fun x3 => (some ((0 : Int32), x3))) else ((f_X5_placeAt p1 x).bind fun q4 => ((f_X5_failAt (3 : Int32) q4 x).bind fun q5 => (some (q5.1, q5.2)))))))
set_option maxRecDepth 20000 in
set_option maxHeartbeats 2000000 in
theorem f_X5_tellPost_snd {fm : Value} {L : Nat} {xs : Nat → Int32} (p1 : Int32) (x : mX) (y : mY) : mS fm L xs (fun r : (Int32 × mX) => (.int r.1, mk r.2 y)) pg_X5_tellPost 0 (m_entry [.ref 1, .int p1] 2) [] (mk x y) ((f_X5_tellPost p1 x)) := by
  unfold f_X5_tellPost
  refine mS_steps (pc' := 0) (ls' := [.ref 1, .int p1]) (st' := []) (mem' := (mk x y)) 0 rfl ?_
  refine mS_steps (pc' := 3) (ls' := [.ref 1, .int p1]) (st' := [.int p1, .ref 1, .ref 1]) (mem' := (mk x y)) 3 rfl ?_
  refine mS_bind (fun q1 hq1 => mS_call 45 2 [.ref 1, .int p1] [.ref 1] rfl rfl rfl ⟨_, _, _, rfl, rfl⟩ (Nat.le_of_ble_eq_true rfl) (Nat.le_of_ble_eq_true rfl) hq1 (f_X5_valueAt_snd p1 x y) ?_)
  refine mS_steps (pc' := 6) (ls' := [.ref 1, .int p1]) (st' := [.long q1, .ref 1]) (mem' := (mk x y)) 0 rfl ?_
  refine mS_bind (fun q2 hq2 => mS_call 46 2 [.ref 1, .long q1] [] rfl rfl rfl ⟨_, _, _, rfl, rfl⟩ (Nat.le_of_ble_eq_true rfl) (Nat.le_of_ble_eq_true rfl) hq2 (f_X5_find_snd q1 x y) ?_)
  refine mS_steps (pc' := 16) (ls' := [.ref 1, .int p1]) (st' := [.int (x.1 2 0), .int q2]) (mem' := (mk x y)) 3 rfl ?_
  refine mS_ic0 rfl (fun _ => ?_) (fun _ => ?_)
  · refine mS_steps (pc' := 40) (ls' := [.ref 1, .int p1]) (st' := [.int ((x.1 2 0) + (1 : Int32)), .ref 2]) (mem' := (mk x y)) 6 rfl ?_
    refine mS_putx rfl rfl (by decide) rfl ?_
    refine mS_letx (fun x3 => ?_)
    refine mS_steps (pc' := 44) (ls' := [.ref 1, .int p1]) (st' := [.int (0 : Int32)]) (mem' := (mk x3 y)) 1 rfl ?_
    exact mS_reti ⟨_, _, _, _, _, rfl, rfl⟩ rfl
  · refine mS_steps (pc' := 23) (ls' := [.ref 1, .int p1]) (st' := [.int p1, .ref 1, .int (3 : Int32), .ref 1]) (mem' := (mk x y)) 4 rfl ?_
    refine mS_bind (fun q4 hq4 => mS_call 50 2 [.ref 1, .int p1] [.int (3 : Int32), .ref 1] rfl rfl rfl ⟨_, _, _, rfl, rfl⟩ (Nat.le_of_ble_eq_true rfl) (Nat.le_of_ble_eq_true rfl) hq4 (f_X5_placeAt_snd p1 x y) ?_)
    refine mS_steps (pc' := 26) (ls' := [.ref 1, .int p1]) (st' := [.int q4, .int (3 : Int32), .ref 1]) (mem' := (mk x y)) 0 rfl ?_
    refine mS_bind (fun q5 hq5 => mS_call 26 3 [.ref 1, .int (3 : Int32), .int q4] [] rfl rfl rfl ⟨_, _, _, rfl, rfl⟩ (Nat.le_of_ble_eq_true rfl) (Nat.le_of_ble_eq_true rfl) hq5 (f_X5_failAt_snd (3 : Int32) q4 x y) ?_)
    refine mS_steps (pc' := 29) (ls' := [.ref 1, .int p1]) (st' := [.int q5.1]) (mem' := (mk q5.2 y)) 0 rfl ?_
    exact mS_reti ⟨_, _, _, _, _, rfl, rfl⟩ rfl
def f_X6_between_L2 (r0 : Nat) (a1 : Int32) (a2 : Int32) : Nat → Int32 → mX → Option Int32
  | 0, _, _ => none
  | n + 1, a3, x => (if (16 : Int32) ≤ a3 then (some (-1 : Int32)) else (if (x.1 r0 1) ≤ a3 then (f_X6_between_L2 r0 a1 a2 n (a3 + (1 : Int32)) x) else (if m_in a3 16 = true then (m_jn (fun _ => (if m_in a3 16 = true then (if (x.1 (r0 + 1) a3.toNatClampNeg) = a2 then (if m_in a3 16 = true then (if (x.1 (r0 + 2) a3.toNatClampNeg) = a1 then (some a3) else (f_X6_between_L2 r0 a1 a2 n (a3 + (1 : Int32)) x)) else none) else (f_X6_between_L2 r0 a1 a2 n (a3 + (1 : Int32)) x)) else none)) (fun j1 => if (x.1 (r0 + 1) a3.toNatClampNeg) = a1 then (if m_in a3 16 = true then (if (x.1 (r0 + 2) a3.toNatClampNeg) = a2 then (some a3) else (j1 ())) else none) else (j1 ()))) else none)))
def f_X6_between (r0 : Nat) (p1 : Int32) (p2 : Int32) (x : mX) : Option Int32 := (f_X6_between_L2 r0 p1 p2 mF (0 : Int32) x)
set_option maxRecDepth 20000 in
set_option maxHeartbeats 2000000 in
theorem f_X6_between_L2_2_snd {fm : Value} {L : Nat} {xs : Nat → Int32} (a1 : Int32) (a2 : Int32) (x : mX) (y : mY) : ∀ (n : Nat) (a3 : Int32), mS fm L xs (fun r : Int32 => (.int r, (mk x y))) pg_X6_between 2 [.ref 2, .int a1, .int a2, .int a3] [] (mk x y) (f_X6_between_L2 2 a1 a2 n a3 x) := by
  intro n
  induction n with
  | zero => intro a3; exact mS_none
  | succ n ih =>
    intro a3
    rw [f_X6_between_L2]
    refine mS_steps (pc' := 5) (ls' := [.ref 2, .int a1, .int a2, .int a3]) (st' := [.int (16 : Int32), .int a3]) (mem' := (mk x y)) 2 rfl ?_
    refine mS_ic3 rfl (fun _ => ?_) (fun _ => ?_)
    · refine mS_steps (pc' := 65) (ls' := [.ref 2, .int a1, .int a2, .int a3]) (st' := [.int (-1 : Int32)]) (mem' := (mk x y)) 1 rfl ?_
      exact mS_reti ⟨_, _, _, _, _, rfl, rfl⟩ rfl
    · refine mS_steps (pc' := 13) (ls' := [.ref 2, .int a1, .int a2, .int a3]) (st' := [.int (x.1 2 1), .int a3]) (mem' := (mk x y)) 3 rfl ?_
      refine mS_ic3 rfl (fun _ => ?_) (fun _ => ?_)
      · refine mS_steps (pc' := 2) (ls' := [.ref 2, .int a1, .int a2, .int (a3 + (1 : Int32))]) (st' := []) (mem' := (mk x y)) 2 rfl ?_
        exact ih (a3 + (1 : Int32))
      · refine mS_steps (pc' := 21) (ls' := [.ref 2, .int a1, .int a2, .int a3]) (st' := [.int a3, .ref 3]) (mem' := (mk x y)) 3 rfl ?_
        refine mS_ald (b := 0) (n := 16) (z := (x.1 (2 + 1) a3.toNatClampNeg)) rfl (by decide) rfl (by decide) rfl (fun _ => ?_)
        refine mS_steps (pc' := 23) (ls' := [.ref 2, .int a1, .int a2, .int a3]) (st' := [.int a1, .int (x.1 (2 + 1) a3.toNatClampNeg)]) (mem' := (mk x y)) 1 rfl ?_
        refine mS_jn (fun j => ∀ z : Unit, mS fm L xs (fun r : Int32 => (.int r, (mk x y))) pg_X6_between 36 [.ref 2, .int a1, .int a2, .int a3] [] (mk x y) (j z)) ?_ ?_
        · intro z
          refine mS_steps (pc' := 41) (ls' := [.ref 2, .int a1, .int a2, .int a3]) (st' := [.int a3, .ref 3]) (mem' := (mk x y)) 3 rfl ?_
          refine mS_ald (b := 0) (n := 16) (z := (x.1 (2 + 1) a3.toNatClampNeg)) rfl (by decide) rfl (by decide) rfl (fun _ => ?_)
          refine mS_steps (pc' := 43) (ls' := [.ref 2, .int a1, .int a2, .int a3]) (st' := [.int a2, .int (x.1 (2 + 1) a3.toNatClampNeg)]) (mem' := (mk x y)) 1 rfl ?_
          refine mS_ic1 rfl (fun _ => ?_) (fun _ => ?_)
          · refine mS_steps (pc' := 51) (ls' := [.ref 2, .int a1, .int a2, .int a3]) (st' := [.int a3, .ref 4]) (mem' := (mk x y)) 3 rfl ?_
            refine mS_ald (b := 0) (n := 16) (z := (x.1 (2 + 2) a3.toNatClampNeg)) rfl (by decide) rfl (by decide) rfl (fun _ => ?_)
            refine mS_steps (pc' := 53) (ls' := [.ref 2, .int a1, .int a2, .int a3]) (st' := [.int a1, .int (x.1 (2 + 2) a3.toNatClampNeg)]) (mem' := (mk x y)) 1 rfl ?_
            refine mS_ic1 rfl (fun _ => ?_) (fun _ => ?_)
            · refine mS_steps (pc' := 57) (ls' := [.ref 2, .int a1, .int a2, .int a3]) (st' := [.int a3]) (mem' := (mk x y)) 1 rfl ?_
              exact mS_reti ⟨_, _, _, _, _, rfl, rfl⟩ rfl
            · refine mS_steps (pc' := 2) (ls' := [.ref 2, .int a1, .int a2, .int (a3 + (1 : Int32))]) (st' := []) (mem' := (mk x y)) 2 rfl ?_
              exact ih (a3 + (1 : Int32))
          · refine mS_steps (pc' := 2) (ls' := [.ref 2, .int a1, .int a2, .int (a3 + (1 : Int32))]) (st' := []) (mem' := (mk x y)) 2 rfl ?_
            exact ih (a3 + (1 : Int32))
        intro j1 hj1
        refine mS_ic1 rfl (fun _ => ?_) (fun _ => ?_)
        · refine mS_steps (pc' := 31) (ls' := [.ref 2, .int a1, .int a2, .int a3]) (st' := [.int a3, .ref 4]) (mem' := (mk x y)) 3 rfl ?_
          refine mS_ald (b := 0) (n := 16) (z := (x.1 (2 + 2) a3.toNatClampNeg)) rfl (by decide) rfl (by decide) rfl (fun _ => ?_)
          refine mS_steps (pc' := 33) (ls' := [.ref 2, .int a1, .int a2, .int a3]) (st' := [.int a2, .int (x.1 (2 + 2) a3.toNatClampNeg)]) (mem' := (mk x y)) 1 rfl ?_
          refine mS_ic0 rfl (fun _ => ?_) (fun _ => ?_)
          · refine mS_steps (pc' := 57) (ls' := [.ref 2, .int a1, .int a2, .int a3]) (st' := [.int a3]) (mem' := (mk x y)) 1 rfl ?_
            exact mS_reti ⟨_, _, _, _, _, rfl, rfl⟩ rfl
          · exact hj1 ()
        · exact hj1 ()
set_option maxRecDepth 20000 in
set_option maxHeartbeats 2000000 in
theorem f_X6_between_2_snd {fm : Value} {L : Nat} {xs : Nat → Int32} (p1 : Int32) (p2 : Int32) (x : mX) (y : mY) : mS fm L xs (fun r : Int32 => (.int r, (mk x y))) pg_X6_between 0 (m_entry [.ref 2, .int p1, .int p2] 4) [] (mk x y) ((f_X6_between 2 p1 p2 x)) := by
  unfold f_X6_between
  refine mS_steps (pc' := 0) (ls' := [.ref 2, .int p1, .int p2, mU]) (st' := []) (mem' := (mk x y)) 0 rfl ?_
  refine mS_steps (pc' := 2) (ls' := [.ref 2, .int p1, .int p2, .int (0 : Int32)]) (st' := []) (mem' := (mk x y)) 2 rfl ?_
  refine f_X6_between_L2_2_snd p1 p2 x y mF (0 : Int32)
set_option maxRecDepth 20000 in
set_option maxHeartbeats 2000000 in
theorem f_X6_between_L2_14_snd {fm : Value} {L : Nat} {xs : Nat → Int32} (a1 : Int32) (a2 : Int32) (x : mX) (y : mY) : ∀ (n : Nat) (a3 : Int32), mS fm L xs (fun r : Int32 => (.int r, (mk x y))) pg_X6_between 2 [.ref 14, .int a1, .int a2, .int a3] [] (mk x y) (f_X6_between_L2 14 a1 a2 n a3 x) := by
  intro n
  induction n with
  | zero => intro a3; exact mS_none
  | succ n ih =>
    intro a3
    rw [f_X6_between_L2]
    refine mS_steps (pc' := 5) (ls' := [.ref 14, .int a1, .int a2, .int a3]) (st' := [.int (16 : Int32), .int a3]) (mem' := (mk x y)) 2 rfl ?_
    refine mS_ic3 rfl (fun _ => ?_) (fun _ => ?_)
    · refine mS_steps (pc' := 65) (ls' := [.ref 14, .int a1, .int a2, .int a3]) (st' := [.int (-1 : Int32)]) (mem' := (mk x y)) 1 rfl ?_
      exact mS_reti ⟨_, _, _, _, _, rfl, rfl⟩ rfl
    · refine mS_steps (pc' := 13) (ls' := [.ref 14, .int a1, .int a2, .int a3]) (st' := [.int (x.1 14 1), .int a3]) (mem' := (mk x y)) 3 rfl ?_
      refine mS_ic3 rfl (fun _ => ?_) (fun _ => ?_)
      · refine mS_steps (pc' := 2) (ls' := [.ref 14, .int a1, .int a2, .int (a3 + (1 : Int32))]) (st' := []) (mem' := (mk x y)) 2 rfl ?_
        exact ih (a3 + (1 : Int32))
      · refine mS_steps (pc' := 21) (ls' := [.ref 14, .int a1, .int a2, .int a3]) (st' := [.int a3, .ref 15]) (mem' := (mk x y)) 3 rfl ?_
        refine mS_ald (b := 0) (n := 16) (z := (x.1 (14 + 1) a3.toNatClampNeg)) rfl (by decide) rfl (by decide) rfl (fun _ => ?_)
        refine mS_steps (pc' := 23) (ls' := [.ref 14, .int a1, .int a2, .int a3]) (st' := [.int a1, .int (x.1 (14 + 1) a3.toNatClampNeg)]) (mem' := (mk x y)) 1 rfl ?_
        refine mS_jn (fun j => ∀ z : Unit, mS fm L xs (fun r : Int32 => (.int r, (mk x y))) pg_X6_between 36 [.ref 14, .int a1, .int a2, .int a3] [] (mk x y) (j z)) ?_ ?_
        · intro z
          refine mS_steps (pc' := 41) (ls' := [.ref 14, .int a1, .int a2, .int a3]) (st' := [.int a3, .ref 15]) (mem' := (mk x y)) 3 rfl ?_
          refine mS_ald (b := 0) (n := 16) (z := (x.1 (14 + 1) a3.toNatClampNeg)) rfl (by decide) rfl (by decide) rfl (fun _ => ?_)
          refine mS_steps (pc' := 43) (ls' := [.ref 14, .int a1, .int a2, .int a3]) (st' := [.int a2, .int (x.1 (14 + 1) a3.toNatClampNeg)]) (mem' := (mk x y)) 1 rfl ?_
          refine mS_ic1 rfl (fun _ => ?_) (fun _ => ?_)
          · refine mS_steps (pc' := 51) (ls' := [.ref 14, .int a1, .int a2, .int a3]) (st' := [.int a3, .ref 16]) (mem' := (mk x y)) 3 rfl ?_
            refine mS_ald (b := 0) (n := 16) (z := (x.1 (14 + 2) a3.toNatClampNeg)) rfl (by decide) rfl (by decide) rfl (fun _ => ?_)
            refine mS_steps (pc' := 53) (ls' := [.ref 14, .int a1, .int a2, .int a3]) (st' := [.int a1, .int (x.1 (14 + 2) a3.toNatClampNeg)]) (mem' := (mk x y)) 1 rfl ?_
            refine mS_ic1 rfl (fun _ => ?_) (fun _ => ?_)
            · refine mS_steps (pc' := 57) (ls' := [.ref 14, .int a1, .int a2, .int a3]) (st' := [.int a3]) (mem' := (mk x y)) 1 rfl ?_
              exact mS_reti ⟨_, _, _, _, _, rfl, rfl⟩ rfl
            · refine mS_steps (pc' := 2) (ls' := [.ref 14, .int a1, .int a2, .int (a3 + (1 : Int32))]) (st' := []) (mem' := (mk x y)) 2 rfl ?_
              exact ih (a3 + (1 : Int32))
          · refine mS_steps (pc' := 2) (ls' := [.ref 14, .int a1, .int a2, .int (a3 + (1 : Int32))]) (st' := []) (mem' := (mk x y)) 2 rfl ?_
            exact ih (a3 + (1 : Int32))
        intro j1 hj1
        refine mS_ic1 rfl (fun _ => ?_) (fun _ => ?_)
        · refine mS_steps (pc' := 31) (ls' := [.ref 14, .int a1, .int a2, .int a3]) (st' := [.int a3, .ref 16]) (mem' := (mk x y)) 3 rfl ?_
          refine mS_ald (b := 0) (n := 16) (z := (x.1 (14 + 2) a3.toNatClampNeg)) rfl (by decide) rfl (by decide) rfl (fun _ => ?_)
          refine mS_steps (pc' := 33) (ls' := [.ref 14, .int a1, .int a2, .int a3]) (st' := [.int a2, .int (x.1 (14 + 2) a3.toNatClampNeg)]) (mem' := (mk x y)) 1 rfl ?_
          refine mS_ic0 rfl (fun _ => ?_) (fun _ => ?_)
          · refine mS_steps (pc' := 57) (ls' := [.ref 14, .int a1, .int a2, .int a3]) (st' := [.int a3]) (mem' := (mk x y)) 1 rfl ?_
            exact mS_reti ⟨_, _, _, _, _, rfl, rfl⟩ rfl
          · exact hj1 ()
        · exact hj1 ()
set_option maxRecDepth 20000 in
set_option maxHeartbeats 2000000 in
theorem f_X6_between_14_snd {fm : Value} {L : Nat} {xs : Nat → Int32} (p1 : Int32) (p2 : Int32) (x : mX) (y : mY) : mS fm L xs (fun r : Int32 => (.int r, (mk x y))) pg_X6_between 0 (m_entry [.ref 14, .int p1, .int p2] 4) [] (mk x y) ((f_X6_between 14 p1 p2 x)) := by
  unfold f_X6_between
  refine mS_steps (pc' := 0) (ls' := [.ref 14, .int p1, .int p2, mU]) (st' := []) (mem' := (mk x y)) 0 rfl ?_
  refine mS_steps (pc' := 2) (ls' := [.ref 14, .int p1, .int p2, .int (0 : Int32)]) (st' := []) (mem' := (mk x y)) 2 rfl ?_
  refine f_X6_between_L2_14_snd p1 p2 x y mF (0 : Int32)
def f_X10_isCost (p0 : Int32) : Int32 := (if p0 < (1 : Int32) then (0 : Int32) else (if (99 : Int32) < p0 then (0 : Int32) else (1 : Int32)))
set_option maxRecDepth 20000 in
set_option maxHeartbeats 2000000 in
theorem f_X10_isCost_snd {fm : Value} {L : Nat} {xs : Nat → Int32} (p0 : Int32) (mem : mM) : mS fm L xs (fun r : Int32 => (.int r, mem)) pg_X10_isCost 0 (m_entry [.int p0] 1) [] mem (some (f_X10_isCost p0)) := by
  unfold f_X10_isCost
  refine mS_steps (pc' := 0) (ls' := [.int p0]) (st' := []) (mem' := mem) 0 rfl ?_
  refine mS_steps (pc' := 2) (ls' := [.int p0]) (st' := [.int (1 : Int32), .int p0]) (mem' := mem) 2 rfl ?_
  refine mS_ic2T rfl (fun _ => ?_) (fun _ => ?_)
  · refine mS_steps (pc' := 16) (ls' := [.int p0]) (st' := [.int (0 : Int32)]) (mem' := mem) 1 rfl ?_
    exact mS_reti ⟨_, _, _, _, _, rfl, (by decide)⟩ rfl
  · refine mS_steps (pc' := 8) (ls' := [.int p0]) (st' := [.int (99 : Int32), .int p0]) (mem' := mem) 2 rfl ?_
    refine mS_ic4T rfl (fun _ => ?_) (fun _ => ?_)
    · refine mS_steps (pc' := 16) (ls' := [.int p0]) (st' := [.int (0 : Int32)]) (mem' := mem) 1 rfl ?_
      exact mS_reti ⟨_, _, _, _, _, rfl, (by decide)⟩ rfl
    · refine mS_steps (pc' := 16) (ls' := [.int p0]) (st' := [.int (1 : Int32)]) (mem' := mem) 2 rfl ?_
      exact mS_reti ⟨_, _, _, _, _, rfl, (by decide)⟩ rfl
def f_X6_add (r0 : Nat) (p1 : Int32) (p2 : Int32) (p3 : Int32) (x : mX) : Option mX := (if (x.1 r0 1) < (16 : Int32) then (if m_in (x.1 r0 1) 16 = true then (m_let (m_xs x (r0 + 1) (x.1 r0 1).toNatClampNeg p1) fun x1 => (if m_in (x1.1 r0 1) 16 = true then (m_let (m_xs x1 (r0 + 2) (x1.1 r0 1).toNatClampNeg p2) fun x2 => (if m_in (x2.1 r0 1) 16 = true then (m_let (m_xs x2 (r0 + 3) (x2.1 r0 1).toNatClampNeg p3) fun x3 => (if m_in (x3.1 r0 1) 16 = true then (m_let (m_xs x3 (r0 + 4) (x3.1 r0 1).toNatClampNeg (0 : Int32)) fun x4 => (m_let (m_xs x4 r0 3 ((x4.1 r0 3) ||| ((1 : Int32) <<< ((x4.1 r0 1) &&& 31)))) fun x5 => (m_let (m_xs x5 r0 1 ((x5.1 r0 1) + (1 : Int32))) fun x6 => (some x6)))) else none)) else none)) else none)) else none) else (some x))
set_option maxRecDepth 20000 in
set_option maxHeartbeats 2000000 in
theorem f_X6_add_2_snd {fm : Value} {L : Nat} {xs : Nat → Int32} (p1 : Int32) (p2 : Int32) (p3 : Int32) (x : mX) (y : mY) : mS fm L xs (fun r : mX => (mU, mk r y)) pg_X6_add 0 (m_entry [.ref 2, .int p1, .int p2, .int p3] 4) [] (mk x y) ((f_X6_add 2 p1 p2 p3 x)) := by
  unfold f_X6_add
  refine mS_steps (pc' := 0) (ls' := [.ref 2, .int p1, .int p2, .int p3]) (st' := []) (mem' := (mk x y)) 0 rfl ?_
  refine mS_steps (pc' := 6) (ls' := [.ref 2, .int p1, .int p2, .int p3]) (st' := [.int (16 : Int32), .int (x.1 2 1)]) (mem' := (mk x y)) 3 rfl ?_
  refine mS_ic2 rfl (fun _ => ?_) (fun _ => ?_)
  · refine mS_steps (pc' := 19) (ls' := [.ref 2, .int p1, .int p2, .int p3]) (st' := [.int p1, .int (x.1 2 1), .ref 3]) (mem' := (mk x y)) 5 rfl ?_
    refine mS_ast0x (n := 16) rfl rfl (by decide) (fun _ => ?_)
    refine mS_letx (fun x1 => ?_)
    refine mS_steps (pc' := 29) (ls' := [.ref 2, .int p1, .int p2, .int p3]) (st' := [.int p2, .int (x1.1 2 1), .ref 4]) (mem' := (mk x1 y)) 5 rfl ?_
    refine mS_ast0x (n := 16) rfl rfl (by decide) (fun _ => ?_)
    refine mS_letx (fun x2 => ?_)
    refine mS_steps (pc' := 39) (ls' := [.ref 2, .int p1, .int p2, .int p3]) (st' := [.int p3, .int (x2.1 2 1), .ref 5]) (mem' := (mk x2 y)) 5 rfl ?_
    refine mS_ast0x (n := 16) rfl rfl (by decide) (fun _ => ?_)
    refine mS_letx (fun x3 => ?_)
    refine mS_steps (pc' := 49) (ls' := [.ref 2, .int p1, .int p2, .int p3]) (st' := [.int (0 : Int32), .int (x3.1 2 1), .ref 6]) (mem' := (mk x3 y)) 5 rfl ?_
    refine mS_ast0x (n := 16) rfl rfl (by decide) (fun _ => ?_)
    refine mS_letx (fun x4 => ?_)
    refine mS_steps (pc' := 62) (ls' := [.ref 2, .int p1, .int p2, .int p3]) (st' := [.int ((x4.1 2 3) ||| ((1 : Int32) <<< ((x4.1 2 1) &&& 31))), .ref 2]) (mem' := (mk x4 y)) 8 rfl ?_
    refine mS_putx rfl rfl (by decide) rfl ?_
    refine mS_letx (fun x5 => ?_)
    refine mS_steps (pc' := 72) (ls' := [.ref 2, .int p1, .int p2, .int p3]) (st' := [.int ((x5.1 2 1) + (1 : Int32)), .ref 2]) (mem' := (mk x5 y)) 5 rfl ?_
    refine mS_putx rfl rfl (by decide) rfl ?_
    refine mS_letx (fun x6 => ?_)
    exact mS_retv ⟨_, _, _, _, _, rfl⟩ rfl
  · exact mS_retv ⟨_, _, _, _, _, rfl⟩ rfl
set_option maxRecDepth 20000 in
set_option maxHeartbeats 2000000 in
theorem f_X6_add_14_snd {fm : Value} {L : Nat} {xs : Nat → Int32} (p1 : Int32) (p2 : Int32) (p3 : Int32) (x : mX) (y : mY) : mS fm L xs (fun r : mX => (mU, mk r y)) pg_X6_add 0 (m_entry [.ref 14, .int p1, .int p2, .int p3] 4) [] (mk x y) ((f_X6_add 14 p1 p2 p3 x)) := by
  unfold f_X6_add
  refine mS_steps (pc' := 0) (ls' := [.ref 14, .int p1, .int p2, .int p3]) (st' := []) (mem' := (mk x y)) 0 rfl ?_
  refine mS_steps (pc' := 6) (ls' := [.ref 14, .int p1, .int p2, .int p3]) (st' := [.int (16 : Int32), .int (x.1 14 1)]) (mem' := (mk x y)) 3 rfl ?_
  refine mS_ic2 rfl (fun _ => ?_) (fun _ => ?_)
  · refine mS_steps (pc' := 19) (ls' := [.ref 14, .int p1, .int p2, .int p3]) (st' := [.int p1, .int (x.1 14 1), .ref 15]) (mem' := (mk x y)) 5 rfl ?_
    refine mS_ast0x (n := 16) rfl rfl (by decide) (fun _ => ?_)
    refine mS_letx (fun x1 => ?_)
    refine mS_steps (pc' := 29) (ls' := [.ref 14, .int p1, .int p2, .int p3]) (st' := [.int p2, .int (x1.1 14 1), .ref 16]) (mem' := (mk x1 y)) 5 rfl ?_
    refine mS_ast0x (n := 16) rfl rfl (by decide) (fun _ => ?_)
    refine mS_letx (fun x2 => ?_)
    refine mS_steps (pc' := 39) (ls' := [.ref 14, .int p1, .int p2, .int p3]) (st' := [.int p3, .int (x2.1 14 1), .ref 17]) (mem' := (mk x2 y)) 5 rfl ?_
    refine mS_ast0x (n := 16) rfl rfl (by decide) (fun _ => ?_)
    refine mS_letx (fun x3 => ?_)
    refine mS_steps (pc' := 49) (ls' := [.ref 14, .int p1, .int p2, .int p3]) (st' := [.int (0 : Int32), .int (x3.1 14 1), .ref 18]) (mem' := (mk x3 y)) 5 rfl ?_
    refine mS_ast0x (n := 16) rfl rfl (by decide) (fun _ => ?_)
    refine mS_letx (fun x4 => ?_)
    refine mS_steps (pc' := 62) (ls' := [.ref 14, .int p1, .int p2, .int p3]) (st' := [.int ((x4.1 14 3) ||| ((1 : Int32) <<< ((x4.1 14 1) &&& 31))), .ref 14]) (mem' := (mk x4 y)) 8 rfl ?_
    refine mS_putx rfl rfl (by decide) rfl ?_
    refine mS_letx (fun x5 => ?_)
    refine mS_steps (pc' := 72) (ls' := [.ref 14, .int p1, .int p2, .int p3]) (st' := [.int ((x5.1 14 1) + (1 : Int32)), .ref 14]) (mem' := (mk x5 y)) 5 rfl ?_
    refine mS_putx rfl rfl (by decide) rfl ?_
    refine mS_letx (fun x6 => ?_)
    exact mS_retv ⟨_, _, _, _, _, rfl⟩ rfl
  · exact mS_retv ⟨_, _, _, _, _, rfl⟩ rfl
def f_X5_tellLink (p1 : Int32) (x : mX) : Option (Int32 × mX) := ((f_X5_valueAt p1 x).bind fun q1 => ((f_X5_find q1 x).bind fun q2 => ((f_X5_valueAt (p1 + (1 : Int32)) x).bind fun q3 => ((f_X5_find q3 x).bind fun q4 => (if q2 = (-1 : Int32) then ((f_X5_placeAt p1 x).bind fun q5 => ((f_X5_failAt (4 : Int32) q5 x).bind fun q6 => (some (q6.1, q6.2)))) else (if q4 = (-1 : Int32) then ((f_X5_placeAt (p1 + (1 : Int32)) x).bind fun q7 => ((f_X5_failAt (4 : Int32) q7 x).bind fun q8 => (some (q8.1, q8.2)))) else (m_jn (fun x10 => ((f_X5_placeAt (p1 + (1 : Int32)) x10).bind fun q11 => ((f_X5_failAt (3 : Int32) q11 x10).bind fun q12 => (some (q12.1, q12.2))))) (fun j9 => if q2 = q4 then (j9 x) else ((f_X6_between 2 q2 q4 x).bind fun q13 => (if q13 = (-1 : Int32) then ((f_X5_valueAt (p1 + (2 : Int32)) x).bind fun q14 => (if (f_X10_isCost (q14.toInt32)) = 0 then ((f_X5_placeAt (p1 + (2 : Int32)) x).bind fun q15 => ((f_X5_failAt (5 : Int32) q15 x).bind fun q16 => (some (q16.1, q16.2)))) else ((f_X6_add 2 q2 q4 (q14.toInt32) x).bind fun q17 => (some ((0 : Int32), q17))))) else (j9 x)))))))))))
set_option maxRecDepth 20000 in
set_option maxHeartbeats 2000000 in
theorem f_X5_tellLink_snd {fm : Value} {L : Nat} {xs : Nat → Int32} (p1 : Int32) (x : mX) (y : mY) : mS fm L xs (fun r : (Int32 × mX) => (.int r.1, mk r.2 y)) pg_X5_tellLink 0 (m_entry [.ref 1, .int p1] 5) [] (mk x y) ((f_X5_tellLink p1 x)) := by
  unfold f_X5_tellLink
  refine mS_steps (pc' := 0) (ls' := [.ref 1, .int p1, mU, mU, mU]) (st' := []) (mem' := (mk x y)) 0 rfl ?_
  refine mS_steps (pc' := 3) (ls' := [.ref 1, .int p1, mU, mU, mU]) (st' := [.int p1, .ref 1, .ref 1]) (mem' := (mk x y)) 3 rfl ?_
  refine mS_bind (fun q1 hq1 => mS_call 45 2 [.ref 1, .int p1] [.ref 1] rfl rfl rfl ⟨_, _, _, rfl, rfl⟩ (Nat.le_of_ble_eq_true rfl) (Nat.le_of_ble_eq_true rfl) hq1 (f_X5_valueAt_snd p1 x y) ?_)
  refine mS_steps (pc' := 6) (ls' := [.ref 1, .int p1, mU, mU, mU]) (st' := [.long q1, .ref 1]) (mem' := (mk x y)) 0 rfl ?_
  refine mS_bind (fun q2 hq2 => mS_call 46 2 [.ref 1, .long q1] [] rfl rfl rfl ⟨_, _, _, rfl, rfl⟩ (Nat.le_of_ble_eq_true rfl) (Nat.le_of_ble_eq_true rfl) hq2 (f_X5_find_snd q1 x y) ?_)
  refine mS_steps (pc' := 15) (ls' := [.ref 1, .int p1, .int q2, mU, mU]) (st' := [.int (p1 + (1 : Int32)), .ref 1, .ref 1]) (mem' := (mk x y)) 6 rfl ?_
  refine mS_bind (fun q3 hq3 => mS_call 45 2 [.ref 1, .int (p1 + (1 : Int32))] [.ref 1] rfl rfl rfl ⟨_, _, _, rfl, rfl⟩ (Nat.le_of_ble_eq_true rfl) (Nat.le_of_ble_eq_true rfl) hq3 (f_X5_valueAt_snd (p1 + (1 : Int32)) x y) ?_)
  refine mS_steps (pc' := 18) (ls' := [.ref 1, .int p1, .int q2, mU, mU]) (st' := [.long q3, .ref 1]) (mem' := (mk x y)) 0 rfl ?_
  refine mS_bind (fun q4 hq4 => mS_call 46 2 [.ref 1, .long q3] [] rfl rfl rfl ⟨_, _, _, rfl, rfl⟩ (Nat.le_of_ble_eq_true rfl) (Nat.le_of_ble_eq_true rfl) hq4 (f_X5_find_snd q3 x y) ?_)
  refine mS_steps (pc' := 24) (ls' := [.ref 1, .int p1, .int q2, .int q4, mU]) (st' := [.int (-1 : Int32), .int q2]) (mem' := (mk x y)) 3 rfl ?_
  refine mS_ic1 rfl (fun _ => ?_) (fun _ => ?_)
  · refine mS_steps (pc' := 31) (ls' := [.ref 1, .int p1, .int q2, .int q4, mU]) (st' := [.int p1, .ref 1, .int (4 : Int32), .ref 1]) (mem' := (mk x y)) 4 rfl ?_
    refine mS_bind (fun q5 hq5 => mS_call 50 2 [.ref 1, .int p1] [.int (4 : Int32), .ref 1] rfl rfl rfl ⟨_, _, _, rfl, rfl⟩ (Nat.le_of_ble_eq_true rfl) (Nat.le_of_ble_eq_true rfl) hq5 (f_X5_placeAt_snd p1 x y) ?_)
    refine mS_steps (pc' := 34) (ls' := [.ref 1, .int p1, .int q2, .int q4, mU]) (st' := [.int q5, .int (4 : Int32), .ref 1]) (mem' := (mk x y)) 0 rfl ?_
    refine mS_bind (fun q6 hq6 => mS_call 26 3 [.ref 1, .int (4 : Int32), .int q5] [] rfl rfl rfl ⟨_, _, _, rfl, rfl⟩ (Nat.le_of_ble_eq_true rfl) (Nat.le_of_ble_eq_true rfl) hq6 (f_X5_failAt_snd (4 : Int32) q5 x y) ?_)
    refine mS_steps (pc' := 37) (ls' := [.ref 1, .int p1, .int q2, .int q4, mU]) (st' := [.int q6.1]) (mem' := (mk q6.2 y)) 0 rfl ?_
    exact mS_reti ⟨_, _, _, _, _, rfl, rfl⟩ rfl
  · refine mS_steps (pc' := 40) (ls' := [.ref 1, .int p1, .int q2, .int q4, mU]) (st' := [.int (-1 : Int32), .int q4]) (mem' := (mk x y)) 2 rfl ?_
    refine mS_ic1 rfl (fun _ => ?_) (fun _ => ?_)
    · refine mS_steps (pc' := 49) (ls' := [.ref 1, .int p1, .int q2, .int q4, mU]) (st' := [.int (p1 + (1 : Int32)), .ref 1, .int (4 : Int32), .ref 1]) (mem' := (mk x y)) 6 rfl ?_
      refine mS_bind (fun q7 hq7 => mS_call 50 2 [.ref 1, .int (p1 + (1 : Int32))] [.int (4 : Int32), .ref 1] rfl rfl rfl ⟨_, _, _, rfl, rfl⟩ (Nat.le_of_ble_eq_true rfl) (Nat.le_of_ble_eq_true rfl) hq7 (f_X5_placeAt_snd (p1 + (1 : Int32)) x y) ?_)
      refine mS_steps (pc' := 52) (ls' := [.ref 1, .int p1, .int q2, .int q4, mU]) (st' := [.int q7, .int (4 : Int32), .ref 1]) (mem' := (mk x y)) 0 rfl ?_
      refine mS_bind (fun q8 hq8 => mS_call 26 3 [.ref 1, .int (4 : Int32), .int q7] [] rfl rfl rfl ⟨_, _, _, rfl, rfl⟩ (Nat.le_of_ble_eq_true rfl) (Nat.le_of_ble_eq_true rfl) hq8 (f_X5_failAt_snd (4 : Int32) q7 x y) ?_)
      refine mS_steps (pc' := 55) (ls' := [.ref 1, .int p1, .int q2, .int q4, mU]) (st' := [.int q8.1]) (mem' := (mk q8.2 y)) 0 rfl ?_
      exact mS_reti ⟨_, _, _, _, _, rfl, rfl⟩ rfl
    · refine mS_steps (pc' := 58) (ls' := [.ref 1, .int p1, .int q2, .int q4, mU]) (st' := [.int q4, .int q2]) (mem' := (mk x y)) 2 rfl ?_
      refine mS_jn (fun j => ∀ z : mX, mS fm L xs (fun r : (Int32 × mX) => (.int r.1, mk r.2 y)) pg_X5_tellLink 74 [.ref 1, .int p1, mU, mU, mU] [] (mk z y) (j z)) ?_ ?_
      · intro z
        revert z; intro x10
        refine mS_steps (pc' := 80) (ls' := [.ref 1, .int p1, mU, mU, mU]) (st' := [.int (p1 + (1 : Int32)), .ref 1, .int (3 : Int32), .ref 1]) (mem' := (mk x10 y)) 6 rfl ?_
        refine mS_bind (fun q11 hq11 => mS_call 50 2 [.ref 1, .int (p1 + (1 : Int32))] [.int (3 : Int32), .ref 1] rfl rfl rfl ⟨_, _, _, rfl, rfl⟩ (Nat.le_of_ble_eq_true rfl) (Nat.le_of_ble_eq_true rfl) hq11 (f_X5_placeAt_snd (p1 + (1 : Int32)) x10 y) ?_)
        refine mS_steps (pc' := 83) (ls' := [.ref 1, .int p1, mU, mU, mU]) (st' := [.int q11, .int (3 : Int32), .ref 1]) (mem' := (mk x10 y)) 0 rfl ?_
        refine mS_bind (fun q12 hq12 => mS_call 26 3 [.ref 1, .int (3 : Int32), .int q11] [] rfl rfl rfl ⟨_, _, _, rfl, rfl⟩ (Nat.le_of_ble_eq_true rfl) (Nat.le_of_ble_eq_true rfl) hq12 (f_X5_failAt_snd (3 : Int32) q11 x10 y) ?_)
        refine mS_steps (pc' := 86) (ls' := [.ref 1, .int p1, mU, mU, mU]) (st' := [.int q12.1]) (mem' := (mk q12.2 y)) 0 rfl ?_
        exact mS_reti ⟨_, _, _, _, _, rfl, rfl⟩ rfl
      intro j9 hj9
      refine mS_ic0 rfl (fun _ => ?_) (fun _ => ?_)
      · refine mS_forget [.ref 1, .int p1, mU, mU, mU] ⟨Or.inr rfl, Or.inr rfl, Or.inl rfl, Or.inl rfl, Or.inl rfl, trivial⟩ ?_
        exact hj9 x
      · refine mS_steps (pc' := 67) (ls' := [.ref 1, .int p1, .int q2, .int q4, mU]) (st' := [.int q4, .int q2, .ref 2]) (mem' := (mk x y)) 4 rfl ?_
        refine mS_bind (fun q13 hq13 => mS_call 52 3 [.ref 2, .int q2, .int q4] [] rfl rfl rfl ⟨_, _, _, rfl, rfl⟩ (Nat.le_of_ble_eq_true rfl) (Nat.le_of_ble_eq_true rfl) hq13 (f_X6_between_2_snd q2 q4 x y) ?_)
        refine mS_steps (pc' := 71) (ls' := [.ref 1, .int p1, .int q2, .int q4, mU]) (st' := [.int (-1 : Int32), .int q13]) (mem' := (mk x y)) 1 rfl ?_
        refine mS_ic0 rfl (fun _ => ?_) (fun _ => ?_)
        · refine mS_steps (pc' := 91) (ls' := [.ref 1, .int p1, .int q2, .int q4, mU]) (st' := [.int (p1 + (2 : Int32)), .ref 1]) (mem' := (mk x y)) 4 rfl ?_
          refine mS_bind (fun q14 hq14 => mS_call 45 2 [.ref 1, .int (p1 + (2 : Int32))] [] rfl rfl rfl ⟨_, _, _, rfl, rfl⟩ (Nat.le_of_ble_eq_true rfl) (Nat.le_of_ble_eq_true rfl) hq14 (f_X5_valueAt_snd (p1 + (2 : Int32)) x y) ?_)
          refine mS_steps (pc' := 99) (ls' := [.ref 1, .int p1, .int q2, .int q4, .int (q14.toInt32)]) (st' := [.int (q14.toInt32)]) (mem' := (mk x y)) 3 rfl ?_
          refine mS_call (q := (f_X10_isCost (q14.toInt32))) 53 1 [.int (q14.toInt32)] [] rfl rfl rfl ⟨_, _, _, rfl, rfl⟩ (Nat.le_of_ble_eq_true rfl) (Nat.le_of_ble_eq_true rfl) rfl (f_X10_isCost_snd (q14.toInt32) (mk x y)) ?_
          refine mS_steps (pc' := 102) (ls' := [.ref 1, .int p1, .int q2, .int q4, .int (q14.toInt32)]) (st' := [.int (f_X10_isCost (q14.toInt32))]) (mem' := (mk x y)) 0 rfl ?_
          refine mS_if1 rfl (fun _ => ?_) (fun _ => ?_)
          · refine mS_steps (pc' := 111) (ls' := [.ref 1, .int p1, .int q2, .int q4, .int (q14.toInt32)]) (st' := [.int (p1 + (2 : Int32)), .ref 1, .int (5 : Int32), .ref 1]) (mem' := (mk x y)) 6 rfl ?_
            refine mS_bind (fun q15 hq15 => mS_call 50 2 [.ref 1, .int (p1 + (2 : Int32))] [.int (5 : Int32), .ref 1] rfl rfl rfl ⟨_, _, _, rfl, rfl⟩ (Nat.le_of_ble_eq_true rfl) (Nat.le_of_ble_eq_true rfl) hq15 (f_X5_placeAt_snd (p1 + (2 : Int32)) x y) ?_)
            refine mS_steps (pc' := 114) (ls' := [.ref 1, .int p1, .int q2, .int q4, .int (q14.toInt32)]) (st' := [.int q15, .int (5 : Int32), .ref 1]) (mem' := (mk x y)) 0 rfl ?_
            refine mS_bind (fun q16 hq16 => mS_call 26 3 [.ref 1, .int (5 : Int32), .int q15] [] rfl rfl rfl ⟨_, _, _, rfl, rfl⟩ (Nat.le_of_ble_eq_true rfl) (Nat.le_of_ble_eq_true rfl) hq16 (f_X5_failAt_snd (5 : Int32) q15 x y) ?_)
            refine mS_steps (pc' := 117) (ls' := [.ref 1, .int p1, .int q2, .int q4, .int (q14.toInt32)]) (st' := [.int q16.1]) (mem' := (mk q16.2 y)) 0 rfl ?_
            exact mS_reti ⟨_, _, _, _, _, rfl, rfl⟩ rfl
          · refine mS_steps (pc' := 126) (ls' := [.ref 1, .int p1, .int q2, .int q4, .int (q14.toInt32)]) (st' := [.int (q14.toInt32), .int q4, .int q2, .ref 2]) (mem' := (mk x y)) 5 rfl ?_
            refine mS_bind (fun q17 hq17 => mS_call 54 4 [.ref 2, .int q2, .int q4, .int (q14.toInt32)] [] rfl rfl rfl ⟨_, _, _, rfl, rfl⟩ (Nat.le_of_ble_eq_true rfl) (Nat.le_of_ble_eq_true rfl) hq17 (f_X6_add_2_snd q2 q4 (q14.toInt32) x y) ?_)
            refine mS_steps (pc' := 130) (ls' := [.ref 1, .int p1, .int q2, .int q4, .int (q14.toInt32)]) (st' := [.int (0 : Int32)]) (mem' := (mk q17 y)) 1 rfl ?_
            exact mS_reti ⟨_, _, _, _, _, rfl, rfl⟩ rfl
        · refine mS_forget [.ref 1, .int p1, mU, mU, mU] ⟨Or.inr rfl, Or.inr rfl, Or.inl rfl, Or.inl rfl, Or.inl rfl, trivial⟩ ?_
          exact hj9 x
def f_X5_tellOne (p1 : Int32) (p2 : Int32) (x : mX) : Option (Int32 × mX) := ((f_X5_valueAt p1 x).bind fun q1 => ((f_X5_find q1 x).bind fun q2 => (if q2 = (-1 : Int32) then ((f_X5_placeAt p1 x).bind fun q3 => ((f_X5_failAt (4 : Int32) q3 x).bind fun q4 => (some (q4.1, q4.2)))) else (if p2 = 0 then (m_let (m_xs x 1 16 ((x.1 1 16) ||| ((1 : Int32) <<< (q2 &&& 31)))) fun x5 => (some ((0 : Int32), x5))) else (m_let (m_xs x 2 4 q2) fun x6 => (some ((0 : Int32), x6)))))))
set_option maxRecDepth 20000 in
set_option maxHeartbeats 2000000 in
theorem f_X5_tellOne_snd {fm : Value} {L : Nat} {xs : Nat → Int32} (p1 : Int32) (p2 : Int32) (x : mX) (y : mY) : mS fm L xs (fun r : (Int32 × mX) => (.int r.1, mk r.2 y)) pg_X5_tellOne 0 (m_entry [.ref 1, .int p1, .int p2] 4) [] (mk x y) ((f_X5_tellOne p1 p2 x)) := by
  unfold f_X5_tellOne
  refine mS_steps (pc' := 0) (ls' := [.ref 1, .int p1, .int p2, mU]) (st' := []) (mem' := (mk x y)) 0 rfl ?_
  refine mS_steps (pc' := 3) (ls' := [.ref 1, .int p1, .int p2, mU]) (st' := [.int p1, .ref 1, .ref 1]) (mem' := (mk x y)) 3 rfl ?_
  refine mS_bind (fun q1 hq1 => mS_call 45 2 [.ref 1, .int p1] [.ref 1] rfl rfl rfl ⟨_, _, _, rfl, rfl⟩ (Nat.le_of_ble_eq_true rfl) (Nat.le_of_ble_eq_true rfl) hq1 (f_X5_valueAt_snd p1 x y) ?_)
  refine mS_steps (pc' := 6) (ls' := [.ref 1, .int p1, .int p2, mU]) (st' := [.long q1, .ref 1]) (mem' := (mk x y)) 0 rfl ?_
  refine mS_bind (fun q2 hq2 => mS_call 46 2 [.ref 1, .long q1] [] rfl rfl rfl ⟨_, _, _, rfl, rfl⟩ (Nat.le_of_ble_eq_true rfl) (Nat.le_of_ble_eq_true rfl) hq2 (f_X5_find_snd q1 x y) ?_)
  refine mS_steps (pc' := 12) (ls' := [.ref 1, .int p1, .int p2, .int q2]) (st' := [.int (-1 : Int32), .int q2]) (mem' := (mk x y)) 3 rfl ?_
  refine mS_ic1 rfl (fun _ => ?_) (fun _ => ?_)
  · refine mS_steps (pc' := 19) (ls' := [.ref 1, .int p1, .int p2, .int q2]) (st' := [.int p1, .ref 1, .int (4 : Int32), .ref 1]) (mem' := (mk x y)) 4 rfl ?_
    refine mS_bind (fun q3 hq3 => mS_call 50 2 [.ref 1, .int p1] [.int (4 : Int32), .ref 1] rfl rfl rfl ⟨_, _, _, rfl, rfl⟩ (Nat.le_of_ble_eq_true rfl) (Nat.le_of_ble_eq_true rfl) hq3 (f_X5_placeAt_snd p1 x y) ?_)
    refine mS_steps (pc' := 22) (ls' := [.ref 1, .int p1, .int p2, .int q2]) (st' := [.int q3, .int (4 : Int32), .ref 1]) (mem' := (mk x y)) 0 rfl ?_
    refine mS_bind (fun q4 hq4 => mS_call 26 3 [.ref 1, .int (4 : Int32), .int q3] [] rfl rfl rfl ⟨_, _, _, rfl, rfl⟩ (Nat.le_of_ble_eq_true rfl) (Nat.le_of_ble_eq_true rfl) hq4 (f_X5_failAt_snd (4 : Int32) q3 x y) ?_)
    refine mS_steps (pc' := 25) (ls' := [.ref 1, .int p1, .int p2, .int q2]) (st' := [.int q4.1]) (mem' := (mk q4.2 y)) 0 rfl ?_
    exact mS_reti ⟨_, _, _, _, _, rfl, rfl⟩ rfl
  · refine mS_steps (pc' := 27) (ls' := [.ref 1, .int p1, .int p2, .int q2]) (st' := [.int p2]) (mem' := (mk x y)) 1 rfl ?_
    refine mS_if0 rfl (fun _ => ?_) (fun _ => ?_)
    · refine mS_steps (pc' := 50) (ls' := [.ref 1, .int p1, .int p2, .int q2]) (st' := [.int ((x.1 1 16) ||| ((1 : Int32) <<< (q2 &&& 31))), .ref 1]) (mem' := (mk x y)) 7 rfl ?_
      refine mS_putx rfl rfl (by decide) rfl ?_
      refine mS_letx (fun x5 => ?_)
      refine mS_steps (pc' := 54) (ls' := [.ref 1, .int p1, .int p2, .int q2]) (st' := [.int (0 : Int32)]) (mem' := (mk x5 y)) 1 rfl ?_
      exact mS_reti ⟨_, _, _, _, _, rfl, rfl⟩ rfl
    · refine mS_steps (pc' := 35) (ls' := [.ref 1, .int p1, .int p2, .int q2]) (st' := [.int q2, .ref 2]) (mem' := (mk x y)) 3 rfl ?_
      refine mS_putx rfl rfl (by decide) rfl ?_
      refine mS_letx (fun x6 => ?_)
      refine mS_steps (pc' := 54) (ls' := [.ref 1, .int p1, .int p2, .int q2]) (st' := [.int (0 : Int32)]) (mem' := (mk x6 y)) 2 rfl ?_
      exact mS_reti ⟨_, _, _, _, _, rfl, rfl⟩ rfl
def f_X10_has (p0 : Int32) (p1 : Int32) : Int32 := (if ((p0 >>> (p1 &&& 31)) &&& (1 : Int32)) = 0 then (0 : Int32) else (1 : Int32))
set_option maxRecDepth 20000 in
set_option maxHeartbeats 2000000 in
theorem f_X10_has_snd {fm : Value} {L : Nat} {xs : Nat → Int32} (p0 : Int32) (p1 : Int32) (mem : mM) : mS fm L xs (fun r : Int32 => (.int r, mem)) pg_X10_has 0 (m_entry [.int p0, .int p1] 2) [] mem (some (f_X10_has p0 p1)) := by
  unfold f_X10_has
  refine mS_steps (pc' := 0) (ls' := [.int p0, .int p1]) (st' := []) (mem' := mem) 0 rfl ?_
  refine mS_steps (pc' := 5) (ls' := [.int p0, .int p1]) (st' := [.int ((p0 >>> (p1 &&& 31)) &&& (1 : Int32))]) (mem' := mem) 5 rfl ?_
  refine mS_if0T rfl (fun _ => ?_) (fun _ => ?_)
  · refine mS_steps (pc' := 13) (ls' := [.int p0, .int p1]) (st' := [.int (0 : Int32)]) (mem' := mem) 1 rfl ?_
    exact mS_reti ⟨_, _, _, _, _, rfl, (by decide)⟩ rfl
  · refine mS_steps (pc' := 13) (ls' := [.int p0, .int p1]) (st' := [.int (1 : Int32)]) (mem' := mem) 2 rfl ?_
    exact mS_reti ⟨_, _, _, _, _, rfl, (by decide)⟩ rfl
def f_X5_tellDown (p1 : Int32) (x : mX) : Option (Int32 × mX) := ((f_X5_valueAt p1 x).bind fun q1 => ((f_X5_find q1 x).bind fun q2 => ((f_X5_valueAt (p1 + (1 : Int32)) x).bind fun q3 => ((f_X5_find q3 x).bind fun q4 => (if q2 < 0 then ((f_X5_placeAt p1 x).bind fun q5 => ((f_X5_failAt (4 : Int32) q5 x).bind fun q6 => (some (q6.1, q6.2)))) else (if q2 < (8 : Int32) then (m_jn (fun x8 => ((f_X5_placeAt (p1 + (1 : Int32)) x8).bind fun q9 => ((f_X5_failAt (4 : Int32) q9 x8).bind fun q10 => (some (q10.1, q10.2))))) (fun j7 => if q4 < 0 then (j7 x) else (if q4 < (8 : Int32) then (if m_in q2 8 = true then (if (f_X10_has (x.1 12 q2.toNatClampNeg) q4) = 0 then ((f_X5_placeAt (p1 + (1 : Int32)) x).bind fun q11 => ((f_X5_failAt (5 : Int32) q11 x).bind fun q12 => (some (q12.1, q12.2)))) else ((f_X5_mark 13 q2 q4 x).bind fun q13 => (some ((0 : Int32), q13)))) else none) else (j7 x)))) else ((f_X5_placeAt p1 x).bind fun q14 => ((f_X5_failAt (4 : Int32) q14 x).bind fun q15 => (some (q15.1, q15.2))))))))))
set_option maxRecDepth 20000 in
set_option maxHeartbeats 2000000 in
theorem f_X5_tellDown_snd {fm : Value} {L : Nat} {xs : Nat → Int32} (p1 : Int32) (x : mX) (y : mY) : mS fm L xs (fun r : (Int32 × mX) => (.int r.1, mk r.2 y)) pg_X5_tellDown 0 (m_entry [.ref 1, .int p1] 4) [] (mk x y) ((f_X5_tellDown p1 x)) := by
  unfold f_X5_tellDown
  refine mS_steps (pc' := 0) (ls' := [.ref 1, .int p1, mU, mU]) (st' := []) (mem' := (mk x y)) 0 rfl ?_
  refine mS_steps (pc' := 3) (ls' := [.ref 1, .int p1, mU, mU]) (st' := [.int p1, .ref 1, .ref 1]) (mem' := (mk x y)) 3 rfl ?_
  refine mS_bind (fun q1 hq1 => mS_call 45 2 [.ref 1, .int p1] [.ref 1] rfl rfl rfl ⟨_, _, _, rfl, rfl⟩ (Nat.le_of_ble_eq_true rfl) (Nat.le_of_ble_eq_true rfl) hq1 (f_X5_valueAt_snd p1 x y) ?_)
  refine mS_steps (pc' := 6) (ls' := [.ref 1, .int p1, mU, mU]) (st' := [.long q1, .ref 1]) (mem' := (mk x y)) 0 rfl ?_
  refine mS_bind (fun q2 hq2 => mS_call 46 2 [.ref 1, .long q1] [] rfl rfl rfl ⟨_, _, _, rfl, rfl⟩ (Nat.le_of_ble_eq_true rfl) (Nat.le_of_ble_eq_true rfl) hq2 (f_X5_find_snd q1 x y) ?_)
  refine mS_steps (pc' := 15) (ls' := [.ref 1, .int p1, .int q2, mU]) (st' := [.int (p1 + (1 : Int32)), .ref 1, .ref 1]) (mem' := (mk x y)) 6 rfl ?_
  refine mS_bind (fun q3 hq3 => mS_call 45 2 [.ref 1, .int (p1 + (1 : Int32))] [.ref 1] rfl rfl rfl ⟨_, _, _, rfl, rfl⟩ (Nat.le_of_ble_eq_true rfl) (Nat.le_of_ble_eq_true rfl) hq3 (f_X5_valueAt_snd (p1 + (1 : Int32)) x y) ?_)
  refine mS_steps (pc' := 18) (ls' := [.ref 1, .int p1, .int q2, mU]) (st' := [.long q3, .ref 1]) (mem' := (mk x y)) 0 rfl ?_
  refine mS_bind (fun q4 hq4 => mS_call 46 2 [.ref 1, .long q3] [] rfl rfl rfl ⟨_, _, _, rfl, rfl⟩ (Nat.le_of_ble_eq_true rfl) (Nat.le_of_ble_eq_true rfl) hq4 (f_X5_find_snd q3 x y) ?_)
  refine mS_steps (pc' := 23) (ls' := [.ref 1, .int p1, .int q2, .int q4]) (st' := [.int q2]) (mem' := (mk x y)) 2 rfl ?_
  refine mS_if2 rfl (fun _ => ?_) (fun _ => ?_)
  · refine mS_steps (pc' := 36) (ls' := [.ref 1, .int p1, .int q2, .int q4]) (st' := [.int p1, .ref 1, .int (4 : Int32), .ref 1]) (mem' := (mk x y)) 4 rfl ?_
    refine mS_bind (fun q5 hq5 => mS_call 50 2 [.ref 1, .int p1] [.int (4 : Int32), .ref 1] rfl rfl rfl ⟨_, _, _, rfl, rfl⟩ (Nat.le_of_ble_eq_true rfl) (Nat.le_of_ble_eq_true rfl) hq5 (f_X5_placeAt_snd p1 x y) ?_)
    refine mS_steps (pc' := 39) (ls' := [.ref 1, .int p1, .int q2, .int q4]) (st' := [.int q5, .int (4 : Int32), .ref 1]) (mem' := (mk x y)) 0 rfl ?_
    refine mS_bind (fun q6 hq6 => mS_call 26 3 [.ref 1, .int (4 : Int32), .int q5] [] rfl rfl rfl ⟨_, _, _, rfl, rfl⟩ (Nat.le_of_ble_eq_true rfl) (Nat.le_of_ble_eq_true rfl) hq6 (f_X5_failAt_snd (4 : Int32) q5 x y) ?_)
    refine mS_steps (pc' := 42) (ls' := [.ref 1, .int p1, .int q2, .int q4]) (st' := [.int q6.1]) (mem' := (mk q6.2 y)) 0 rfl ?_
    exact mS_reti ⟨_, _, _, _, _, rfl, rfl⟩ rfl
  · refine mS_steps (pc' := 29) (ls' := [.ref 1, .int p1, .int q2, .int q4]) (st' := [.int (8 : Int32), .int q2]) (mem' := (mk x y)) 2 rfl ?_
    refine mS_ic2 rfl (fun _ => ?_) (fun _ => ?_)
    · refine mS_steps (pc' := 44) (ls' := [.ref 1, .int p1, .int q2, .int q4]) (st' := [.int q4]) (mem' := (mk x y)) 1 rfl ?_
      refine mS_jn (fun j => ∀ z : mX, mS fm L xs (fun r : (Int32 × mX) => (.int r.1, mk r.2 y)) pg_X5_tellDown 53 [.ref 1, .int p1, mU, mU] [] (mk z y) (j z)) ?_ ?_
      · intro z
        revert z; intro x8
        refine mS_steps (pc' := 59) (ls' := [.ref 1, .int p1, mU, mU]) (st' := [.int (p1 + (1 : Int32)), .ref 1, .int (4 : Int32), .ref 1]) (mem' := (mk x8 y)) 6 rfl ?_
        refine mS_bind (fun q9 hq9 => mS_call 50 2 [.ref 1, .int (p1 + (1 : Int32))] [.int (4 : Int32), .ref 1] rfl rfl rfl ⟨_, _, _, rfl, rfl⟩ (Nat.le_of_ble_eq_true rfl) (Nat.le_of_ble_eq_true rfl) hq9 (f_X5_placeAt_snd (p1 + (1 : Int32)) x8 y) ?_)
        refine mS_steps (pc' := 62) (ls' := [.ref 1, .int p1, mU, mU]) (st' := [.int q9, .int (4 : Int32), .ref 1]) (mem' := (mk x8 y)) 0 rfl ?_
        refine mS_bind (fun q10 hq10 => mS_call 26 3 [.ref 1, .int (4 : Int32), .int q9] [] rfl rfl rfl ⟨_, _, _, rfl, rfl⟩ (Nat.le_of_ble_eq_true rfl) (Nat.le_of_ble_eq_true rfl) hq10 (f_X5_failAt_snd (4 : Int32) q9 x8 y) ?_)
        refine mS_steps (pc' := 65) (ls' := [.ref 1, .int p1, mU, mU]) (st' := [.int q10.1]) (mem' := (mk q10.2 y)) 0 rfl ?_
        exact mS_reti ⟨_, _, _, _, _, rfl, rfl⟩ rfl
      intro j7 hj7
      refine mS_if2 rfl (fun _ => ?_) (fun _ => ?_)
      · refine mS_forget [.ref 1, .int p1, mU, mU] ⟨Or.inr rfl, Or.inr rfl, Or.inl rfl, Or.inl rfl, trivial⟩ ?_
        exact hj7 x
      · refine mS_steps (pc' := 50) (ls' := [.ref 1, .int p1, .int q2, .int q4]) (st' := [.int (8 : Int32), .int q4]) (mem' := (mk x y)) 2 rfl ?_
        refine mS_ic2 rfl (fun _ => ?_) (fun _ => ?_)
        · refine mS_steps (pc' := 71) (ls' := [.ref 1, .int p1, .int q2, .int q4]) (st' := [.int q2, .ref 12]) (mem' := (mk x y)) 3 rfl ?_
          refine mS_ald (b := 0) (n := 8) (z := (x.1 12 q2.toNatClampNeg)) rfl (by decide) rfl (by decide) rfl (fun _ => ?_)
          refine mS_steps (pc' := 73) (ls' := [.ref 1, .int p1, .int q2, .int q4]) (st' := [.int q4, .int (x.1 12 q2.toNatClampNeg)]) (mem' := (mk x y)) 1 rfl ?_
          refine mS_call (q := (f_X10_has (x.1 12 q2.toNatClampNeg) q4)) 57 2 [.int (x.1 12 q2.toNatClampNeg), .int q4] [] rfl rfl rfl ⟨_, _, _, rfl, rfl⟩ (Nat.le_of_ble_eq_true rfl) (Nat.le_of_ble_eq_true rfl) rfl (f_X10_has_snd (x.1 12 q2.toNatClampNeg) q4 (mk x y)) ?_
          refine mS_steps (pc' := 76) (ls' := [.ref 1, .int p1, .int q2, .int q4]) (st' := [.int (f_X10_has (x.1 12 q2.toNatClampNeg) q4)]) (mem' := (mk x y)) 0 rfl ?_
          refine mS_if1 rfl (fun _ => ?_) (fun _ => ?_)
          · refine mS_steps (pc' := 85) (ls' := [.ref 1, .int p1, .int q2, .int q4]) (st' := [.int (p1 + (1 : Int32)), .ref 1, .int (5 : Int32), .ref 1]) (mem' := (mk x y)) 6 rfl ?_
            refine mS_bind (fun q11 hq11 => mS_call 50 2 [.ref 1, .int (p1 + (1 : Int32))] [.int (5 : Int32), .ref 1] rfl rfl rfl ⟨_, _, _, rfl, rfl⟩ (Nat.le_of_ble_eq_true rfl) (Nat.le_of_ble_eq_true rfl) hq11 (f_X5_placeAt_snd (p1 + (1 : Int32)) x y) ?_)
            refine mS_steps (pc' := 88) (ls' := [.ref 1, .int p1, .int q2, .int q4]) (st' := [.int q11, .int (5 : Int32), .ref 1]) (mem' := (mk x y)) 0 rfl ?_
            refine mS_bind (fun q12 hq12 => mS_call 26 3 [.ref 1, .int (5 : Int32), .int q11] [] rfl rfl rfl ⟨_, _, _, rfl, rfl⟩ (Nat.le_of_ble_eq_true rfl) (Nat.le_of_ble_eq_true rfl) hq12 (f_X5_failAt_snd (5 : Int32) q11 x y) ?_)
            refine mS_steps (pc' := 91) (ls' := [.ref 1, .int p1, .int q2, .int q4]) (st' := [.int q12.1]) (mem' := (mk q12.2 y)) 0 rfl ?_
            exact mS_reti ⟨_, _, _, _, _, rfl, rfl⟩ rfl
          · refine mS_steps (pc' := 98) (ls' := [.ref 1, .int p1, .int q2, .int q4]) (st' := [.int q4, .int q2, .ref 13]) (mem' := (mk x y)) 4 rfl ?_
            refine mS_bind (fun q13 hq13 => mS_call 47 3 [.ref 13, .int q2, .int q4] [] rfl rfl rfl ⟨_, _, _, rfl, rfl⟩ (Nat.le_of_ble_eq_true rfl) (Nat.le_of_ble_eq_true rfl) hq13 (f_X5_mark_13_snd q2 q4 x y) ?_)
            refine mS_steps (pc' := 102) (ls' := [.ref 1, .int p1, .int q2, .int q4]) (st' := [.int (0 : Int32)]) (mem' := (mk q13 y)) 1 rfl ?_
            exact mS_reti ⟨_, _, _, _, _, rfl, rfl⟩ rfl
        · refine mS_forget [.ref 1, .int p1, mU, mU] ⟨Or.inr rfl, Or.inr rfl, Or.inl rfl, Or.inl rfl, trivial⟩ ?_
          exact hj7 x
    · refine mS_steps (pc' := 36) (ls' := [.ref 1, .int p1, .int q2, .int q4]) (st' := [.int p1, .ref 1, .int (4 : Int32), .ref 1]) (mem' := (mk x y)) 4 rfl ?_
      refine mS_bind (fun q14 hq14 => mS_call 50 2 [.ref 1, .int p1] [.int (4 : Int32), .ref 1] rfl rfl rfl ⟨_, _, _, rfl, rfl⟩ (Nat.le_of_ble_eq_true rfl) (Nat.le_of_ble_eq_true rfl) hq14 (f_X5_placeAt_snd p1 x y) ?_)
      refine mS_steps (pc' := 39) (ls' := [.ref 1, .int p1, .int q2, .int q4]) (st' := [.int q14, .int (4 : Int32), .ref 1]) (mem' := (mk x y)) 0 rfl ?_
      refine mS_bind (fun q15 hq15 => mS_call 26 3 [.ref 1, .int (4 : Int32), .int q14] [] rfl rfl rfl ⟨_, _, _, rfl, rfl⟩ (Nat.le_of_ble_eq_true rfl) (Nat.le_of_ble_eq_true rfl) hq15 (f_X5_failAt_snd (4 : Int32) q14 x y) ?_)
      refine mS_steps (pc' := 42) (ls' := [.ref 1, .int p1, .int q2, .int q4]) (st' := [.int q15.1]) (mem' := (mk q15.2 y)) 0 rfl ?_
      exact mS_reti ⟨_, _, _, _, _, rfl, rfl⟩ rfl
def f_X5_tellLine (p1 : Int32) (x : mX) : Option (Int32 × mX) := ((f_X5_kindAt p1 x).bind fun q1 => (if q1 = (100 : Int32) then ((f_X5_tellDown (p1 + (1 : Int32)) x).bind fun q2 => (some (q2.1, q2.2))) else (if q1 = (108 : Int32) then ((f_X5_tellLink (p1 + (1 : Int32)) x).bind fun q4 => (some (q4.1, q4.2))) else (if q1 = (111 : Int32) then ((f_X5_kindAt p1 x).bind fun q6 => (if q6 = (114 : Int32) then ((f_X5_tellOne (p1 + (1 : Int32)) (1 : Int32) x).bind fun q7 => (some (q7.1, q7.2))) else ((f_X5_tellOne (p1 + (1 : Int32)) (0 : Int32) x).bind fun q8 => (some (q8.1, q8.2))))) else (if q1 = (112 : Int32) then ((f_X5_tellPost (p1 + (1 : Int32)) x).bind fun q10 => (some (q10.1, q10.2))) else (if q1 = (114 : Int32) then ((f_X5_kindAt p1 x).bind fun q12 => (if q12 = (114 : Int32) then ((f_X5_tellOne (p1 + (1 : Int32)) (1 : Int32) x).bind fun q13 => (some (q13.1, q13.2))) else ((f_X5_tellOne (p1 + (1 : Int32)) (0 : Int32) x).bind fun q14 => (some (q14.1, q14.2))))) else (some ((0 : Int32), x))))))))
set_option maxRecDepth 20000 in
set_option maxHeartbeats 2000000 in
theorem f_X5_tellLine_snd {fm : Value} {L : Nat} {xs : Nat → Int32} (p1 : Int32) (x : mX) (y : mY) : mS fm L xs (fun r : (Int32 × mX) => (.int r.1, mk r.2 y)) pg_X5_tellLine 0 (m_entry [.ref 1, .int p1] 2) [] (mk x y) ((f_X5_tellLine p1 x)) := by
  unfold f_X5_tellLine
  refine mS_steps (pc' := 0) (ls' := [.ref 1, .int p1]) (st' := []) (mem' := (mk x y)) 0 rfl ?_
  refine mS_steps (pc' := 2) (ls' := [.ref 1, .int p1]) (st' := [.int p1, .ref 1]) (mem' := (mk x y)) 2 rfl ?_
  refine mS_bind (fun q1 hq1 => mS_call 44 2 [.ref 1, .int p1] [] rfl rfl rfl ⟨_, _, _, rfl, rfl⟩ (Nat.le_of_ble_eq_true rfl) (Nat.le_of_ble_eq_true rfl) hq1 (f_X5_kindAt_snd p1 x y) ?_)
  refine mS_steps (pc' := 5) (ls' := [.ref 1, .int p1]) (st' := [.int q1]) (mem' := (mk x y)) 0 rfl ?_
  refine mS_ite (fun hc => ?_) (fun hn3 => ?_)
  · refine mS_tsw (i := 0) (t := 119) rfl (by rw [hc]; decide) rfl ?_
    refine mS_steps (pc' := 123) (ls' := [.ref 1, .int p1]) (st' := [.int (p1 + (1 : Int32)), .ref 1]) (mem' := (mk x y)) 4 rfl ?_
    refine mS_bind (fun q2 hq2 => mS_call 58 2 [.ref 1, .int (p1 + (1 : Int32))] [] rfl rfl rfl ⟨_, _, _, rfl, rfl⟩ (Nat.le_of_ble_eq_true rfl) (Nat.le_of_ble_eq_true rfl) hq2 (f_X5_tellDown_snd (p1 + (1 : Int32)) x y) ?_)
    refine mS_steps (pc' := 126) (ls' := [.ref 1, .int p1]) (st' := [.int q2.1]) (mem' := (mk q2.2 y)) 0 rfl ?_
    exact mS_reti ⟨_, _, _, _, _, rfl, rfl⟩ rfl
  refine mS_ite (fun hc => ?_) (fun hn5 => ?_)
  · refine mS_tsw (i := 8) (t := 88) rfl (by rw [hc]; decide) rfl ?_
    refine mS_steps (pc' := 92) (ls' := [.ref 1, .int p1]) (st' := [.int (p1 + (1 : Int32)), .ref 1]) (mem' := (mk x y)) 4 rfl ?_
    refine mS_bind (fun q4 hq4 => mS_call 55 2 [.ref 1, .int (p1 + (1 : Int32))] [] rfl rfl rfl ⟨_, _, _, rfl, rfl⟩ (Nat.le_of_ble_eq_true rfl) (Nat.le_of_ble_eq_true rfl) hq4 (f_X5_tellLink_snd (p1 + (1 : Int32)) x y) ?_)
    refine mS_steps (pc' := 95) (ls' := [.ref 1, .int p1]) (st' := [.int q4.1]) (mem' := (mk q4.2 y)) 0 rfl ?_
    exact mS_reti ⟨_, _, _, _, _, rfl, rfl⟩ rfl
  refine mS_ite (fun hc => ?_) (fun hn9 => ?_)
  · refine mS_tsw (i := 11) (t := 96) rfl (by rw [hc]; decide) rfl ?_
    refine mS_steps (pc' := 102) (ls' := [.ref 1, .int p1]) (st' := [.int p1, .ref 1, .int (p1 + (1 : Int32)), .ref 1]) (mem' := (mk x y)) 6 rfl ?_
    refine mS_bind (fun q6 hq6 => mS_call 44 2 [.ref 1, .int p1] [.int (p1 + (1 : Int32)), .ref 1] rfl rfl rfl ⟨_, _, _, rfl, rfl⟩ (Nat.le_of_ble_eq_true rfl) (Nat.le_of_ble_eq_true rfl) hq6 (f_X5_kindAt_snd p1 x y) ?_)
    refine mS_steps (pc' := 107) (ls' := [.ref 1, .int p1]) (st' := [.int (114 : Int32), .int q6, .int (p1 + (1 : Int32)), .ref 1]) (mem' := (mk x y)) 1 rfl ?_
    refine mS_ic1 rfl (fun _ => ?_) (fun _ => ?_)
    · refine mS_steps (pc' := 115) (ls' := [.ref 1, .int p1]) (st' := [.int (1 : Int32), .int (p1 + (1 : Int32)), .ref 1]) (mem' := (mk x y)) 2 rfl ?_
      refine mS_bind (fun q7 hq7 => mS_call 56 3 [.ref 1, .int (p1 + (1 : Int32)), .int (1 : Int32)] [] rfl rfl rfl ⟨_, _, _, rfl, rfl⟩ (Nat.le_of_ble_eq_true rfl) (Nat.le_of_ble_eq_true rfl) hq7 (f_X5_tellOne_snd (p1 + (1 : Int32)) (1 : Int32) x y) ?_)
      refine mS_steps (pc' := 118) (ls' := [.ref 1, .int p1]) (st' := [.int q7.1]) (mem' := (mk q7.2 y)) 0 rfl ?_
      exact mS_reti ⟨_, _, _, _, _, rfl, rfl⟩ rfl
    · refine mS_steps (pc' := 115) (ls' := [.ref 1, .int p1]) (st' := [.int (0 : Int32), .int (p1 + (1 : Int32)), .ref 1]) (mem' := (mk x y)) 1 rfl ?_
      refine mS_bind (fun q8 hq8 => mS_call 56 3 [.ref 1, .int (p1 + (1 : Int32)), .int (0 : Int32)] [] rfl rfl rfl ⟨_, _, _, rfl, rfl⟩ (Nat.le_of_ble_eq_true rfl) (Nat.le_of_ble_eq_true rfl) hq8 (f_X5_tellOne_snd (p1 + (1 : Int32)) (0 : Int32) x y) ?_)
      refine mS_steps (pc' := 118) (ls' := [.ref 1, .int p1]) (st' := [.int q8.1]) (mem' := (mk q8.2 y)) 0 rfl ?_
      exact mS_reti ⟨_, _, _, _, _, rfl, rfl⟩ rfl
  refine mS_ite (fun hc => ?_) (fun hn11 => ?_)
  · refine mS_tsw (i := 12) (t := 80) rfl (by rw [hc]; decide) rfl ?_
    refine mS_steps (pc' := 84) (ls' := [.ref 1, .int p1]) (st' := [.int (p1 + (1 : Int32)), .ref 1]) (mem' := (mk x y)) 4 rfl ?_
    refine mS_bind (fun q10 hq10 => mS_call 51 2 [.ref 1, .int (p1 + (1 : Int32))] [] rfl rfl rfl ⟨_, _, _, rfl, rfl⟩ (Nat.le_of_ble_eq_true rfl) (Nat.le_of_ble_eq_true rfl) hq10 (f_X5_tellPost_snd (p1 + (1 : Int32)) x y) ?_)
    refine mS_steps (pc' := 87) (ls' := [.ref 1, .int p1]) (st' := [.int q10.1]) (mem' := (mk q10.2 y)) 0 rfl ?_
    exact mS_reti ⟨_, _, _, _, _, rfl, rfl⟩ rfl
  refine mS_ite (fun hc => ?_) (fun hn15 => ?_)
  · refine mS_tsw (i := 14) (t := 96) rfl (by rw [hc]; decide) rfl ?_
    refine mS_steps (pc' := 102) (ls' := [.ref 1, .int p1]) (st' := [.int p1, .ref 1, .int (p1 + (1 : Int32)), .ref 1]) (mem' := (mk x y)) 6 rfl ?_
    refine mS_bind (fun q12 hq12 => mS_call 44 2 [.ref 1, .int p1] [.int (p1 + (1 : Int32)), .ref 1] rfl rfl rfl ⟨_, _, _, rfl, rfl⟩ (Nat.le_of_ble_eq_true rfl) (Nat.le_of_ble_eq_true rfl) hq12 (f_X5_kindAt_snd p1 x y) ?_)
    refine mS_steps (pc' := 107) (ls' := [.ref 1, .int p1]) (st' := [.int (114 : Int32), .int q12, .int (p1 + (1 : Int32)), .ref 1]) (mem' := (mk x y)) 1 rfl ?_
    refine mS_ic1 rfl (fun _ => ?_) (fun _ => ?_)
    · refine mS_steps (pc' := 115) (ls' := [.ref 1, .int p1]) (st' := [.int (1 : Int32), .int (p1 + (1 : Int32)), .ref 1]) (mem' := (mk x y)) 2 rfl ?_
      refine mS_bind (fun q13 hq13 => mS_call 56 3 [.ref 1, .int (p1 + (1 : Int32)), .int (1 : Int32)] [] rfl rfl rfl ⟨_, _, _, rfl, rfl⟩ (Nat.le_of_ble_eq_true rfl) (Nat.le_of_ble_eq_true rfl) hq13 (f_X5_tellOne_snd (p1 + (1 : Int32)) (1 : Int32) x y) ?_)
      refine mS_steps (pc' := 118) (ls' := [.ref 1, .int p1]) (st' := [.int q13.1]) (mem' := (mk q13.2 y)) 0 rfl ?_
      exact mS_reti ⟨_, _, _, _, _, rfl, rfl⟩ rfl
    · refine mS_steps (pc' := 115) (ls' := [.ref 1, .int p1]) (st' := [.int (0 : Int32), .int (p1 + (1 : Int32)), .ref 1]) (mem' := (mk x y)) 1 rfl ?_
      refine mS_bind (fun q14 hq14 => mS_call 56 3 [.ref 1, .int (p1 + (1 : Int32)), .int (0 : Int32)] [] rfl rfl rfl ⟨_, _, _, rfl, rfl⟩ (Nat.le_of_ble_eq_true rfl) (Nat.le_of_ble_eq_true rfl) hq14 (f_X5_tellOne_snd (p1 + (1 : Int32)) (0 : Int32) x y) ?_)
      refine mS_steps (pc' := 118) (ls' := [.ref 1, .int p1]) (st' := [.int q14.1]) (mem' := (mk q14.2 y)) 0 rfl ?_
      exact mS_reti ⟨_, _, _, _, _, rfl, rfl⟩ rfl
  refine mS_tswd rfl (fun i hi => ?_) ?_
  · match i, hi with
    | 0, _ => exact Or.inl (m_nlit hn3 (by decide))
    | 1, _ => exact Or.inr rfl
    | 2, _ => exact Or.inr rfl
    | 3, _ => exact Or.inr rfl
    | 4, _ => exact Or.inr rfl
    | 5, _ => exact Or.inr rfl
    | 6, _ => exact Or.inr rfl
    | 7, _ => exact Or.inr rfl
    | 8, _ => exact Or.inl (m_nlit hn5 (by decide))
    | 9, _ => exact Or.inr rfl
    | 10, _ => exact Or.inr rfl
    | 11, _ => exact Or.inl (m_nlit hn9 (by decide))
    | 12, _ => exact Or.inl (m_nlit hn11 (by decide))
    | 13, _ => exact Or.inr rfl
    | 14, _ => exact Or.inl (m_nlit hn15 (by decide))
    | n + 15, hi => exact absurd hi (by simp)
  refine mS_steps (pc' := 128) (ls' := [.ref 1, .int p1]) (st' := [.int (0 : Int32)]) (mem' := (mk x y)) 1 rfl ?_
  exact mS_reti ⟨_, _, _, _, _, rfl, rfl⟩ rfl
def f_X5_tell_L9 : Nat → Int32 → mX → Option (Int32 × mX)
  | 0, _, _ => none
  | n + 1, a1, x => (if (x.1 1 4) ≤ a1 then (some ((0 : Int32), x)) else ((f_X5_tellLine a1 x).bind fun q2 => (if q2.1 = 0 then (f_X5_tell_L9 n (a1 + (1 : Int32)) q2.2) else (some (q2.1, q2.2)))))
def f_X5_tell (x : mX) : Option (Int32 × mX) := (m_let (f_X6_clear x) fun x1 => (f_X5_tell_L9 mF (0 : Int32) x1))
set_option maxRecDepth 20000 in
set_option maxHeartbeats 2000000 in
theorem f_X5_tell_L9_snd {fm : Value} {L : Nat} {xs : Nat → Int32} (y : mY) : ∀ (n : Nat) (a1 : Int32) (x : mX), mS fm L xs (fun r : (Int32 × mX) => (.int r.1, mk r.2 y)) pg_X5_tell 9 [.ref 1, .int a1, mU] [] (mk x y) (f_X5_tell_L9 n a1 x) := by
  intro n
  induction n with
  | zero => intro a1 x; exact mS_none
  | succ n ih =>
    intro a1 x
    rw [f_X5_tell_L9]
    refine mS_steps (pc' := 14) (ls' := [.ref 1, .int a1, mU]) (st' := [.int (x.1 1 4), .int a1]) (mem' := (mk x y)) 3 rfl ?_
    refine mS_ic3 rfl (fun _ => ?_) (fun _ => ?_)
    · refine mS_steps (pc' := 36) (ls' := [.ref 1, .int a1, mU]) (st' := [.int (0 : Int32)]) (mem' := (mk x y)) 1 rfl ?_
      exact mS_reti ⟨_, _, _, _, _, rfl, rfl⟩ rfl
    · refine mS_steps (pc' := 19) (ls' := [.ref 1, .int a1, mU]) (st' := [.int a1, .ref 1]) (mem' := (mk x y)) 2 rfl ?_
      refine mS_bind (fun q2 hq2 => mS_call 59 2 [.ref 1, .int a1] [] rfl rfl rfl ⟨_, _, _, rfl, rfl⟩ (Nat.le_of_ble_eq_true rfl) (Nat.le_of_ble_eq_true rfl) hq2 (f_X5_tellLine_snd a1 x y) ?_)
      refine mS_steps (pc' := 24) (ls' := [.ref 1, .int a1, .int q2.1]) (st' := [.int q2.1]) (mem' := (mk q2.2 y)) 2 rfl ?_
      refine mS_if0 rfl (fun _ => ?_) (fun _ => ?_)
      · refine mS_steps (pc' := 9) (ls' := [.ref 1, .int (a1 + (1 : Int32)), .int q2.1]) (st' := []) (mem' := (mk q2.2 y)) 2 rfl ?_
        refine mS_forget [.ref 1, .int (a1 + (1 : Int32)), mU] ⟨Or.inr rfl, Or.inr rfl, Or.inl rfl, trivial⟩ ?_
        exact ih (a1 + (1 : Int32)) q2.2
      · refine mS_steps (pc' := 28) (ls' := [.ref 1, .int a1, .int q2.1]) (st' := [.int q2.1]) (mem' := (mk q2.2 y)) 1 rfl ?_
        exact mS_reti ⟨_, _, _, _, _, rfl, rfl⟩ rfl
set_option maxRecDepth 20000 in
set_option maxHeartbeats 2000000 in
theorem f_X5_tell_snd {fm : Value} {L : Nat} {xs : Nat → Int32} (x : mX) (y : mY) : mS fm L xs (fun r : (Int32 × mX) => (.int r.1, mk r.2 y)) pg_X5_tell 0 (m_entry [.ref 1] 3) [] (mk x y) ((f_X5_tell x)) := by
  unfold f_X5_tell
  refine mS_steps (pc' := 0) (ls' := [.ref 1, mU, mU]) (st' := []) (mem' := (mk x y)) 0 rfl ?_
  refine mS_steps (pc' := 4) (ls' := [.ref 1, mU, mU]) (st' := [.ref 2]) (mem' := (mk x y)) 2 rfl ?_
  refine mS_call (q := (f_X6_clear x)) 49 1 [.ref 2] [] rfl rfl rfl ⟨_, _, _, rfl, rfl⟩ (Nat.le_of_ble_eq_true rfl) (Nat.le_of_ble_eq_true rfl) rfl (f_X6_clear_snd  x y) ?_
  refine mS_letx (fun x1 => ?_)
  refine mS_steps (pc' := 9) (ls' := [.ref 1, .int (0 : Int32), mU]) (st' := []) (mem' := (mk x1 y)) 2 rfl ?_
  refine f_X5_tell_L9_snd y mF (0 : Int32) x1
def f_X6_live_L4 (r0 : Nat) : Nat → Int32 → Int32 → mX → Option Int32
  | 0, _, _, _ => none
  | n + 1, a1, a2, x => (if (16 : Int32) ≤ a2 then (some a1) else (if (x.1 r0 1) ≤ a2 then (f_X6_live_L4 r0 n a1 (a2 + (1 : Int32)) x) else (if (f_X10_has (x.1 r0 3) a2) = 0 then (f_X6_live_L4 r0 n a1 (a2 + (1 : Int32)) x) else (if m_in a2 16 = true then (if (f_X10_has (x.1 r0 2) (x.1 (r0 + 1) a2.toNatClampNeg)) = 0 then (f_X6_live_L4 r0 n a1 (a2 + (1 : Int32)) x) else (if m_in a2 16 = true then (if (f_X10_has (x.1 r0 2) (x.1 (r0 + 2) a2.toNatClampNeg)) = 0 then (f_X6_live_L4 r0 n a1 (a2 + (1 : Int32)) x) else (f_X6_live_L4 r0 n (a1 ||| ((1 : Int32) <<< (a2 &&& 31))) (a2 + (1 : Int32)) x)) else none)) else none))))
def f_X6_live (r0 : Nat) (x : mX) : Option Int32 := (f_X6_live_L4 r0 mF (0 : Int32) (0 : Int32) x)
set_option maxRecDepth 20000 in
set_option maxHeartbeats 2000000 in
theorem f_X6_live_L4_2_snd {fm : Value} {L : Nat} {xs : Nat → Int32} (x : mX) (y : mY) : ∀ (n : Nat) (a1 : Int32) (a2 : Int32), mS fm L xs (fun r : Int32 => (.int r, (mk x y))) pg_X6_live 4 [.ref 2, .int a1, .int a2] [] (mk x y) (f_X6_live_L4 2 n a1 a2 x) := by
  intro n
  induction n with
  | zero => intro a1 a2; exact mS_none
  | succ n ih =>
    intro a1 a2
    rw [f_X6_live_L4]
    refine mS_steps (pc' := 7) (ls' := [.ref 2, .int a1, .int a2]) (st' := [.int (16 : Int32), .int a2]) (mem' := (mk x y)) 2 rfl ?_
    refine mS_ic3 rfl (fun _ => ?_) (fun _ => ?_)
    · refine mS_steps (pc' := 74) (ls' := [.ref 2, .int a1, .int a2]) (st' := [.int a1]) (mem' := (mk x y)) 1 rfl ?_
      exact mS_reti ⟨_, _, _, _, _, rfl, rfl⟩ rfl
    · refine mS_steps (pc' := 15) (ls' := [.ref 2, .int a1, .int a2]) (st' := [.int (x.1 2 1), .int a2]) (mem' := (mk x y)) 3 rfl ?_
      refine mS_ic3 rfl (fun _ => ?_) (fun _ => ?_)
      · refine mS_steps (pc' := 4) (ls' := [.ref 2, .int a1, .int (a2 + (1 : Int32))]) (st' := []) (mem' := (mk x y)) 2 rfl ?_
        exact ih a1 (a2 + (1 : Int32))
      · refine mS_steps (pc' := 23) (ls' := [.ref 2, .int a1, .int a2]) (st' := [.int a2, .int (x.1 2 3)]) (mem' := (mk x y)) 3 rfl ?_
        refine mS_call (q := (f_X10_has (x.1 2 3) a2)) 57 2 [.int (x.1 2 3), .int a2] [] rfl rfl rfl ⟨_, _, _, rfl, rfl⟩ (Nat.le_of_ble_eq_true rfl) (Nat.le_of_ble_eq_true rfl) rfl (f_X10_has_snd (x.1 2 3) a2 (mk x y)) ?_
        refine mS_steps (pc' := 26) (ls' := [.ref 2, .int a1, .int a2]) (st' := [.int (f_X10_has (x.1 2 3) a2)]) (mem' := (mk x y)) 0 rfl ?_
        refine mS_if0 rfl (fun _ => ?_) (fun _ => ?_)
        · refine mS_steps (pc' := 4) (ls' := [.ref 2, .int a1, .int (a2 + (1 : Int32))]) (st' := []) (mem' := (mk x y)) 2 rfl ?_
          exact ih a1 (a2 + (1 : Int32))
        · refine mS_steps (pc' := 38) (ls' := [.ref 2, .int a1, .int a2]) (st' := [.int a2, .ref 3, .int (x.1 2 2)]) (mem' := (mk x y)) 5 rfl ?_
          refine mS_ald (b := 0) (n := 16) (z := (x.1 (2 + 1) a2.toNatClampNeg)) rfl (by decide) rfl (by decide) rfl (fun _ => ?_)
          refine mS_call (q := (f_X10_has (x.1 2 2) (x.1 (2 + 1) a2.toNatClampNeg))) 57 2 [.int (x.1 2 2), .int (x.1 (2 + 1) a2.toNatClampNeg)] [] rfl rfl rfl ⟨_, _, _, rfl, rfl⟩ (Nat.le_of_ble_eq_true rfl) (Nat.le_of_ble_eq_true rfl) rfl (f_X10_has_snd (x.1 2 2) (x.1 (2 + 1) a2.toNatClampNeg) (mk x y)) ?_
          refine mS_steps (pc' := 42) (ls' := [.ref 2, .int a1, .int a2]) (st' := [.int (f_X10_has (x.1 2 2) (x.1 (2 + 1) a2.toNatClampNeg))]) (mem' := (mk x y)) 0 rfl ?_
          refine mS_if0 rfl (fun _ => ?_) (fun _ => ?_)
          · refine mS_steps (pc' := 4) (ls' := [.ref 2, .int a1, .int (a2 + (1 : Int32))]) (st' := []) (mem' := (mk x y)) 2 rfl ?_
            exact ih a1 (a2 + (1 : Int32))
          · refine mS_steps (pc' := 54) (ls' := [.ref 2, .int a1, .int a2]) (st' := [.int a2, .ref 4, .int (x.1 2 2)]) (mem' := (mk x y)) 5 rfl ?_
            refine mS_ald (b := 0) (n := 16) (z := (x.1 (2 + 2) a2.toNatClampNeg)) rfl (by decide) rfl (by decide) rfl (fun _ => ?_)
            refine mS_call (q := (f_X10_has (x.1 2 2) (x.1 (2 + 2) a2.toNatClampNeg))) 57 2 [.int (x.1 2 2), .int (x.1 (2 + 2) a2.toNatClampNeg)] [] rfl rfl rfl ⟨_, _, _, rfl, rfl⟩ (Nat.le_of_ble_eq_true rfl) (Nat.le_of_ble_eq_true rfl) rfl (f_X10_has_snd (x.1 2 2) (x.1 (2 + 2) a2.toNatClampNeg) (mk x y)) ?_
            refine mS_steps (pc' := 58) (ls' := [.ref 2, .int a1, .int a2]) (st' := [.int (f_X10_has (x.1 2 2) (x.1 (2 + 2) a2.toNatClampNeg))]) (mem' := (mk x y)) 0 rfl ?_
            refine mS_if0 rfl (fun _ => ?_) (fun _ => ?_)
            · refine mS_steps (pc' := 4) (ls' := [.ref 2, .int a1, .int (a2 + (1 : Int32))]) (st' := []) (mem' := (mk x y)) 2 rfl ?_
              exact ih a1 (a2 + (1 : Int32))
            · refine mS_steps (pc' := 4) (ls' := [.ref 2, .int (a1 ||| ((1 : Int32) <<< (a2 &&& 31))), .int (a2 + (1 : Int32))]) (st' := []) (mem' := (mk x y)) 8 rfl ?_
              exact ih (a1 ||| ((1 : Int32) <<< (a2 &&& 31))) (a2 + (1 : Int32))
set_option maxRecDepth 20000 in
set_option maxHeartbeats 2000000 in
theorem f_X6_live_2_snd {fm : Value} {L : Nat} {xs : Nat → Int32} (x : mX) (y : mY) : mS fm L xs (fun r : Int32 => (.int r, (mk x y))) pg_X6_live 0 (m_entry [.ref 2] 3) [] (mk x y) ((f_X6_live 2 x)) := by
  unfold f_X6_live
  refine mS_steps (pc' := 0) (ls' := [.ref 2, mU, mU]) (st' := []) (mem' := (mk x y)) 0 rfl ?_
  refine mS_steps (pc' := 4) (ls' := [.ref 2, .int (0 : Int32), .int (0 : Int32)]) (st' := []) (mem' := (mk x y)) 4 rfl ?_
  refine f_X6_live_L4_2_snd x y mF (0 : Int32) (0 : Int32)
set_option maxRecDepth 20000 in
set_option maxHeartbeats 2000000 in
theorem f_X6_live_L4_14_snd {fm : Value} {L : Nat} {xs : Nat → Int32} (x : mX) (y : mY) : ∀ (n : Nat) (a1 : Int32) (a2 : Int32), mS fm L xs (fun r : Int32 => (.int r, (mk x y))) pg_X6_live 4 [.ref 14, .int a1, .int a2] [] (mk x y) (f_X6_live_L4 14 n a1 a2 x) := by
  intro n
  induction n with
  | zero => intro a1 a2; exact mS_none
  | succ n ih =>
    intro a1 a2
    rw [f_X6_live_L4]
    refine mS_steps (pc' := 7) (ls' := [.ref 14, .int a1, .int a2]) (st' := [.int (16 : Int32), .int a2]) (mem' := (mk x y)) 2 rfl ?_
    refine mS_ic3 rfl (fun _ => ?_) (fun _ => ?_)
    · refine mS_steps (pc' := 74) (ls' := [.ref 14, .int a1, .int a2]) (st' := [.int a1]) (mem' := (mk x y)) 1 rfl ?_
      exact mS_reti ⟨_, _, _, _, _, rfl, rfl⟩ rfl
    · refine mS_steps (pc' := 15) (ls' := [.ref 14, .int a1, .int a2]) (st' := [.int (x.1 14 1), .int a2]) (mem' := (mk x y)) 3 rfl ?_
      refine mS_ic3 rfl (fun _ => ?_) (fun _ => ?_)
      · refine mS_steps (pc' := 4) (ls' := [.ref 14, .int a1, .int (a2 + (1 : Int32))]) (st' := []) (mem' := (mk x y)) 2 rfl ?_
        exact ih a1 (a2 + (1 : Int32))
      · refine mS_steps (pc' := 23) (ls' := [.ref 14, .int a1, .int a2]) (st' := [.int a2, .int (x.1 14 3)]) (mem' := (mk x y)) 3 rfl ?_
        refine mS_call (q := (f_X10_has (x.1 14 3) a2)) 57 2 [.int (x.1 14 3), .int a2] [] rfl rfl rfl ⟨_, _, _, rfl, rfl⟩ (Nat.le_of_ble_eq_true rfl) (Nat.le_of_ble_eq_true rfl) rfl (f_X10_has_snd (x.1 14 3) a2 (mk x y)) ?_
        refine mS_steps (pc' := 26) (ls' := [.ref 14, .int a1, .int a2]) (st' := [.int (f_X10_has (x.1 14 3) a2)]) (mem' := (mk x y)) 0 rfl ?_
        refine mS_if0 rfl (fun _ => ?_) (fun _ => ?_)
        · refine mS_steps (pc' := 4) (ls' := [.ref 14, .int a1, .int (a2 + (1 : Int32))]) (st' := []) (mem' := (mk x y)) 2 rfl ?_
          exact ih a1 (a2 + (1 : Int32))
        · refine mS_steps (pc' := 38) (ls' := [.ref 14, .int a1, .int a2]) (st' := [.int a2, .ref 15, .int (x.1 14 2)]) (mem' := (mk x y)) 5 rfl ?_
          refine mS_ald (b := 0) (n := 16) (z := (x.1 (14 + 1) a2.toNatClampNeg)) rfl (by decide) rfl (by decide) rfl (fun _ => ?_)
          refine mS_call (q := (f_X10_has (x.1 14 2) (x.1 (14 + 1) a2.toNatClampNeg))) 57 2 [.int (x.1 14 2), .int (x.1 (14 + 1) a2.toNatClampNeg)] [] rfl rfl rfl ⟨_, _, _, rfl, rfl⟩ (Nat.le_of_ble_eq_true rfl) (Nat.le_of_ble_eq_true rfl) rfl (f_X10_has_snd (x.1 14 2) (x.1 (14 + 1) a2.toNatClampNeg) (mk x y)) ?_
          refine mS_steps (pc' := 42) (ls' := [.ref 14, .int a1, .int a2]) (st' := [.int (f_X10_has (x.1 14 2) (x.1 (14 + 1) a2.toNatClampNeg))]) (mem' := (mk x y)) 0 rfl ?_
          refine mS_if0 rfl (fun _ => ?_) (fun _ => ?_)
          · refine mS_steps (pc' := 4) (ls' := [.ref 14, .int a1, .int (a2 + (1 : Int32))]) (st' := []) (mem' := (mk x y)) 2 rfl ?_
            exact ih a1 (a2 + (1 : Int32))
          · refine mS_steps (pc' := 54) (ls' := [.ref 14, .int a1, .int a2]) (st' := [.int a2, .ref 16, .int (x.1 14 2)]) (mem' := (mk x y)) 5 rfl ?_
            refine mS_ald (b := 0) (n := 16) (z := (x.1 (14 + 2) a2.toNatClampNeg)) rfl (by decide) rfl (by decide) rfl (fun _ => ?_)
            refine mS_call (q := (f_X10_has (x.1 14 2) (x.1 (14 + 2) a2.toNatClampNeg))) 57 2 [.int (x.1 14 2), .int (x.1 (14 + 2) a2.toNatClampNeg)] [] rfl rfl rfl ⟨_, _, _, rfl, rfl⟩ (Nat.le_of_ble_eq_true rfl) (Nat.le_of_ble_eq_true rfl) rfl (f_X10_has_snd (x.1 14 2) (x.1 (14 + 2) a2.toNatClampNeg) (mk x y)) ?_
            refine mS_steps (pc' := 58) (ls' := [.ref 14, .int a1, .int a2]) (st' := [.int (f_X10_has (x.1 14 2) (x.1 (14 + 2) a2.toNatClampNeg))]) (mem' := (mk x y)) 0 rfl ?_
            refine mS_if0 rfl (fun _ => ?_) (fun _ => ?_)
            · refine mS_steps (pc' := 4) (ls' := [.ref 14, .int a1, .int (a2 + (1 : Int32))]) (st' := []) (mem' := (mk x y)) 2 rfl ?_
              exact ih a1 (a2 + (1 : Int32))
            · refine mS_steps (pc' := 4) (ls' := [.ref 14, .int (a1 ||| ((1 : Int32) <<< (a2 &&& 31))), .int (a2 + (1 : Int32))]) (st' := []) (mem' := (mk x y)) 8 rfl ?_
              exact ih (a1 ||| ((1 : Int32) <<< (a2 &&& 31))) (a2 + (1 : Int32))
set_option maxRecDepth 20000 in
set_option maxHeartbeats 2000000 in
theorem f_X6_live_14_snd {fm : Value} {L : Nat} {xs : Nat → Int32} (x : mX) (y : mY) : mS fm L xs (fun r : Int32 => (.int r, (mk x y))) pg_X6_live 0 (m_entry [.ref 14] 3) [] (mk x y) ((f_X6_live 14 x)) := by
  unfold f_X6_live
  refine mS_steps (pc' := 0) (ls' := [.ref 14, mU, mU]) (st' := []) (mem' := (mk x y)) 0 rfl ?_
  refine mS_steps (pc' := 4) (ls' := [.ref 14, .int (0 : Int32), .int (0 : Int32)]) (st' := []) (mem' := (mk x y)) 4 rfl ?_
  refine f_X6_live_L4_14_snd x y mF (0 : Int32) (0 : Int32)
def f_X5_finish_L27 : Nat → Int32 → mX → (mX → Option mX) → Option mX
  | 0, _, _, _ => none
  | n + 1, a1, x, k96 => (if (16 : Int32) ≤ a1 then (k96 x) else (if (x.1 2 1) ≤ a1 then (f_X5_finish_L27 n (a1 + (1 : Int32)) x k96) else (if m_in a1 16 = true then (if m_in (x.1 3 a1.toNatClampNeg) 8 = true then (if m_in a1 16 = true then (if (f_X10_has (x.1 13 (x.1 3 a1.toNatClampNeg).toNatClampNeg) (x.1 4 a1.toNatClampNeg)) = 0 then (f_X5_finish_L27 n (a1 + (1 : Int32)) x k96) else (m_let (m_xs x 2 3 ((x.1 2 3) &&& (((1 : Int32) <<< (a1 &&& 31)) ^^^ (-1 : Int32)))) fun x2 => (f_X5_finish_L27 n (a1 + (1 : Int32)) x2 k96))) else none) else none) else none)))
def f_X5_finish (x : mX) : Option mX := (m_let (m_xs x 2 2 ((((1 : Int32) <<< ((x.1 2 0) &&& 31)) - (1 : Int32)) &&& ((x.1 1 16) ^^^ (-1 : Int32)))) fun x1 => (f_X5_finish_L27 mF (0 : Int32) x1 (fun x3 => (m_let (m_xs x3 2 5 (x3.1 2 2)) fun x4 => ((f_X6_live 2 x4).bind fun q5 => (m_let (m_xs x4 2 6 q5) fun x6 => (some x6)))))))
set_option maxRecDepth 20000 in
set_option maxHeartbeats 2000000 in
theorem f_X5_finish_L27_snd {fm : Value} {L : Nat} {xs : Nat → Int32} (y : mY) (k96 : mX → Option mX) (hk96 : ∀ (z0 : mX), mS fm L xs (fun r : mX => (mU, mk r y)) pg_X5_finish 96 [.ref 1, mU] [] (mk z0 y) (k96 z0)) : ∀ (n : Nat) (a1 : Int32) (x : mX), mS fm L xs (fun r : mX => (mU, mk r y)) pg_X5_finish 27 [.ref 1, .int a1] [] (mk x y) (f_X5_finish_L27 n a1 x k96) := by
  intro n
  induction n with
  | zero => intro a1 x; exact mS_none
  | succ n ih =>
    intro a1 x
    rw [f_X5_finish_L27]
    refine mS_steps (pc' := 30) (ls' := [.ref 1, .int a1]) (st' := [.int (16 : Int32), .int a1]) (mem' := (mk x y)) 2 rfl ?_
    refine mS_ic3 rfl (fun _ => ?_) (fun _ => ?_)
    · refine mS_forget [.ref 1, mU] ⟨Or.inr rfl, Or.inl rfl, trivial⟩ ?_
      exact hk96 x
    · refine mS_steps (pc' := 41) (ls' := [.ref 1, .int a1]) (st' := [.int (x.1 2 1), .int a1]) (mem' := (mk x y)) 4 rfl ?_
      refine mS_ic3 rfl (fun _ => ?_) (fun _ => ?_)
      · refine mS_steps (pc' := 27) (ls' := [.ref 1, .int (a1 + (1 : Int32))]) (st' := []) (mem' := (mk x y)) 2 rfl ?_
        exact ih (a1 + (1 : Int32)) x
      · refine mS_steps (pc' := 56) (ls' := [.ref 1, .int a1]) (st' := [.int a1, .ref 3, .ref 13]) (mem' := (mk x y)) 6 rfl ?_
        refine mS_ald (b := 0) (n := 16) (z := (x.1 3 a1.toNatClampNeg)) rfl (by decide) rfl (by decide) rfl (fun _ => ?_)
        refine mS_ald (b := 0) (n := 8) (z := (x.1 13 (x.1 3 a1.toNatClampNeg).toNatClampNeg)) rfl (by decide) rfl (by decide) rfl (fun _ => ?_)
        refine mS_steps (pc' := 66) (ls' := [.ref 1, .int a1]) (st' := [.int a1, .ref 4, .int (x.1 13 (x.1 3 a1.toNatClampNeg).toNatClampNeg)]) (mem' := (mk x y)) 4 rfl ?_
        refine mS_ald (b := 0) (n := 16) (z := (x.1 4 a1.toNatClampNeg)) rfl (by decide) rfl (by decide) rfl (fun _ => ?_)
        refine mS_call (q := (f_X10_has (x.1 13 (x.1 3 a1.toNatClampNeg).toNatClampNeg) (x.1 4 a1.toNatClampNeg))) 57 2 [.int (x.1 13 (x.1 3 a1.toNatClampNeg).toNatClampNeg), .int (x.1 4 a1.toNatClampNeg)] [] rfl rfl rfl ⟨_, _, _, rfl, rfl⟩ (Nat.le_of_ble_eq_true rfl) (Nat.le_of_ble_eq_true rfl) rfl (f_X10_has_snd (x.1 13 (x.1 3 a1.toNatClampNeg).toNatClampNeg) (x.1 4 a1.toNatClampNeg) (mk x y)) ?_
        refine mS_steps (pc' := 70) (ls' := [.ref 1, .int a1]) (st' := [.int (f_X10_has (x.1 13 (x.1 3 a1.toNatClampNeg).toNatClampNeg) (x.1 4 a1.toNatClampNeg))]) (mem' := (mk x y)) 0 rfl ?_
        refine mS_if0 rfl (fun _ => ?_) (fun _ => ?_)
        · refine mS_steps (pc' := 27) (ls' := [.ref 1, .int (a1 + (1 : Int32))]) (st' := []) (mem' := (mk x y)) 2 rfl ?_
          exact ih (a1 + (1 : Int32)) x
        · refine mS_steps (pc' := 87) (ls' := [.ref 1, .int a1]) (st' := [.int ((x.1 2 3) &&& (((1 : Int32) <<< (a1 &&& 31)) ^^^ (-1 : Int32))), .ref 2]) (mem' := (mk x y)) 10 rfl ?_
          refine mS_putx rfl rfl (by decide) rfl ?_
          refine mS_letx (fun x2 => ?_)
          refine mS_steps (pc' := 27) (ls' := [.ref 1, .int (a1 + (1 : Int32))]) (st' := []) (mem' := (mk x2 y)) 2 rfl ?_
          exact ih (a1 + (1 : Int32)) x2
set_option maxRecDepth 20000 in
set_option maxHeartbeats 2000000 in
theorem f_X5_finish_snd {fm : Value} {L : Nat} {xs : Nat → Int32} (x : mX) (y : mY) : mS fm L xs (fun r : mX => (mU, mk r y)) pg_X5_finish 0 (m_entry [.ref 1] 2) [] (mk x y) ((f_X5_finish x)) := by
  unfold f_X5_finish
  refine mS_steps (pc' := 0) (ls' := [.ref 1, mU]) (st' := []) (mem' := (mk x y)) 0 rfl ?_
  refine mS_steps (pc' := 22) (ls' := [.ref 1, mU]) (st' := [.int ((((1 : Int32) <<< ((x.1 2 0) &&& 31)) - (1 : Int32)) &&& ((x.1 1 16) ^^^ (-1 : Int32))), .ref 2]) (mem' := (mk x y)) 14 rfl ?_
  refine mS_putx rfl rfl (by decide) rfl ?_
  refine mS_letx (fun x1 => ?_)
  refine mS_steps (pc' := 27) (ls' := [.ref 1, .int (0 : Int32)]) (st' := []) (mem' := (mk x1 y)) 2 rfl ?_
  refine f_X5_finish_L27_snd y _ ?_ mF (0 : Int32) x1
  · intro x3
    refine mS_steps (pc' := 107) (ls' := [.ref 1, mU]) (st' := [.int (x3.1 2 2), .ref 2]) (mem' := (mk x3 y)) 5 rfl ?_
    refine mS_putx rfl rfl (by decide) rfl ?_
    refine mS_letx (fun x4 => ?_)
    refine mS_steps (pc' := 118) (ls' := [.ref 1, mU]) (st' := [.ref 2, .ref 2]) (mem' := (mk x4 y)) 4 rfl ?_
    refine mS_bind (fun q5 hq5 => mS_call 61 1 [.ref 2] [.ref 2] rfl rfl rfl ⟨_, _, _, rfl, rfl⟩ (Nat.le_of_ble_eq_true rfl) (Nat.le_of_ble_eq_true rfl) hq5 (f_X6_live_2_snd  x4 y) ?_)
    refine mS_steps (pc' := 121) (ls' := [.ref 1, mU]) (st' := [.int q5, .ref 2]) (mem' := (mk x4 y)) 0 rfl ?_
    refine mS_putx rfl rfl (by decide) rfl ?_
    refine mS_letx (fun x6 => ?_)
    exact mS_retv ⟨_, _, _, _, _, rfl⟩ rfl
def f_X5_parse (x : mX) : Option (Int32 × mX) := (m_let (m_xs x 1 1 (-1 : Int32)) fun x1 => ((f_X5_split x1).bind fun q2 => (m_jn (fun (z : Int32 × mX) => match z with | (v4, x5) => (if v4 = 0 then ((f_X5_finish x5).bind fun q6 => (m_let (m_xs q6 1 0 (0 : Int32)) fun x7 => (some (v4, x7)))) else (m_let (m_xs x5 1 0 (0 : Int32)) fun x8 => (some (v4, x8))))) (fun j3 => if q2.1 = 0 then ((f_X5_gather q2.2).bind fun q9 => ((f_X5_tell q9).bind fun q10 => (j3 (q10.1, q10.2)))) else (j3 (q2.1, q2.2))))))
set_option maxRecDepth 20000 in
set_option maxHeartbeats 2000000 in
theorem f_X5_parse_snd {fm : Value} {L : Nat} {xs : Nat → Int32} (hfm : fm = .null ∨ fm = .ref (mBIG + 200)) (x : mX) (y : mY) : mS fm L xs (fun r : (Int32 × mX) => (.int r.1, mk r.2 y)) pg_X5_parse 0 (m_entry [.ref 1] 2) [] (mk x y) ((f_X5_parse x)) := by
  unfold f_X5_parse
  refine mS_steps (pc' := 0) (ls' := [.ref 1, mU]) (st' := []) (mem' := (mk x y)) 0 rfl ?_
  refine mS_steps (pc' := 2) (ls' := [.ref 1, mU]) (st' := [.int (-1 : Int32), .ref 1]) (mem' := (mk x y)) 2 rfl ?_
  refine mS_putx rfl rfl (by decide) rfl ?_
  refine mS_letx (fun x1 => ?_)
  refine mS_steps (pc' := 6) (ls' := [.ref 1, mU]) (st' := [.ref 1]) (mem' := (mk x1 y)) 1 rfl ?_
  refine mS_bind (fun q2 hq2 => mS_call 43 1 [.ref 1] [] rfl rfl rfl ⟨_, _, _, rfl, rfl⟩ (Nat.le_of_ble_eq_true rfl) (Nat.le_of_ble_eq_true rfl) hq2 (f_X5_split_snd hfm  x1 y) ?_)
  refine mS_steps (pc' := 11) (ls' := [.ref 1, .int q2.1]) (st' := [.int q2.1]) (mem' := (mk q2.2 y)) 2 rfl ?_
  refine mS_jn (fun j => ∀ z : Int32 × mX, mS fm L xs (fun r : (Int32 × mX) => (.int r.1, mk r.2 y)) pg_X5_parse 23 [.ref 1, .int z.1] [] (mk z.2 y) (j z)) ?_ ?_
  · intro z
    obtain ⟨v4, x5⟩ := z
    refine mS_steps (pc' := 24) (ls' := [.ref 1, .int v4]) (st' := [.int v4]) (mem' := (mk x5 y)) 1 rfl ?_
    refine mS_if1 rfl (fun _ => ?_) (fun _ => ?_)
    · refine mS_steps (pc' := 28) (ls' := [.ref 1, .int v4]) (st' := [.ref 1]) (mem' := (mk x5 y)) 1 rfl ?_
      refine mS_bind (fun q6 hq6 => mS_call 62 1 [.ref 1] [] rfl rfl rfl ⟨_, _, _, rfl, rfl⟩ (Nat.le_of_ble_eq_true rfl) (Nat.le_of_ble_eq_true rfl) hq6 (f_X5_finish_snd  x5 y) ?_)
      refine mS_steps (pc' := 33) (ls' := [.ref 1, .int v4]) (st' := [.int (0 : Int32), .ref 1]) (mem' := (mk q6 y)) 2 rfl ?_
      refine mS_putx rfl rfl (by decide) rfl ?_
      refine mS_letx (fun x7 => ?_)
      refine mS_steps (pc' := 37) (ls' := [.ref 1, .int v4]) (st' := [.int v4]) (mem' := (mk x7 y)) 1 rfl ?_
      exact mS_reti ⟨_, _, _, _, _, rfl, rfl⟩ rfl
    · refine mS_steps (pc' := 33) (ls' := [.ref 1, .int v4]) (st' := [.int (0 : Int32), .ref 1]) (mem' := (mk x5 y)) 2 rfl ?_
      refine mS_putx rfl rfl (by decide) rfl ?_
      refine mS_letx (fun x8 => ?_)
      refine mS_steps (pc' := 37) (ls' := [.ref 1, .int v4]) (st' := [.int v4]) (mem' := (mk x8 y)) 1 rfl ?_
      exact mS_reti ⟨_, _, _, _, _, rfl, rfl⟩ rfl
  intro j3 hj3
  refine mS_if1 rfl (fun _ => ?_) (fun _ => ?_)
  · refine mS_steps (pc' := 15) (ls' := [.ref 1, .int q2.1]) (st' := [.ref 1]) (mem' := (mk q2.2 y)) 1 rfl ?_
    refine mS_bind (fun q9 hq9 => mS_call 48 1 [.ref 1] [] rfl rfl rfl ⟨_, _, _, rfl, rfl⟩ (Nat.le_of_ble_eq_true rfl) (Nat.le_of_ble_eq_true rfl) hq9 (f_X5_gather_snd  q2.2 y) ?_)
    refine mS_steps (pc' := 19) (ls' := [.ref 1, .int q2.1]) (st' := [.ref 1]) (mem' := (mk q9 y)) 1 rfl ?_
    refine mS_bind (fun q10 hq10 => mS_call 60 1 [.ref 1] [] rfl rfl rfl ⟨_, _, _, rfl, rfl⟩ (Nat.le_of_ble_eq_true rfl) (Nat.le_of_ble_eq_true rfl) hq10 (f_X5_tell_snd  q9 y) ?_)
    refine mS_steps (pc' := 23) (ls' := [.ref 1, .int q10.1]) (st' := []) (mem' := (mk q10.2 y)) 1 rfl ?_
    exact hj3 (q10.1, q10.2)
  · exact hj3 (q2.1, q2.2)
def f_X6_copy_L82 (d0 : Nat) (s0 : Nat) : Nat → Int32 → mX → Option mX
  | 0, _, _ => none
  | n + 1, a2, x => (if (16 : Int32) ≤ a2 then (some x) else (if m_in a2 16 = true then (if m_in a2 16 = true then (m_let (m_xs x (d0 + 1) a2.toNatClampNeg (x.1 (s0 + 1) a2.toNatClampNeg)) fun x11 => (if m_in a2 16 = true then (if m_in a2 16 = true then (m_let (m_xs x11 (d0 + 2) a2.toNatClampNeg (x11.1 (s0 + 2) a2.toNatClampNeg)) fun x12 => (if m_in a2 16 = true then (if m_in a2 16 = true then (m_let (m_xs x12 (d0 + 3) a2.toNatClampNeg (x12.1 (s0 + 3) a2.toNatClampNeg)) fun x13 => (if m_in a2 16 = true then (if m_in a2 16 = true then (m_let (m_xs x13 (d0 + 4) a2.toNatClampNeg (x13.1 (s0 + 4) a2.toNatClampNeg)) fun x14 => (f_X6_copy_L82 d0 s0 n (a2 + (1 : Int32)) x14)) else none) else none)) else none) else none)) else none) else none)) else none) else none))
def f_X6_copy (d0 : Nat) (s0 : Nat) (x : mX) : Option mX := (m_let (m_xs x d0 0 (x.1 s0 0)) fun x1 => (m_let (m_xs x1 d0 1 (x1.1 s0 1)) fun x2 => (m_let (m_xs x2 d0 2 (x2.1 s0 2)) fun x3 => (m_let (m_xs x3 d0 3 (x3.1 s0 3)) fun x4 => (m_let (m_xs x4 d0 4 (x4.1 s0 4)) fun x5 => (m_let (m_xs x5 d0 5 (x5.1 s0 5)) fun x6 => (m_let (m_xs x6 d0 6 (x6.1 s0 6)) fun x7 => (m_let (m_xs x7 d0 7 (x7.1 s0 7)) fun x8 => (m_let (m_xs x8 d0 8 (x8.1 s0 8)) fun x9 => (m_let (m_xs x9 d0 9 (x9.1 s0 9)) fun x10 => (f_X6_copy_L82 d0 s0 mF (0 : Int32) x10)))))))))))
set_option maxRecDepth 20000 in
set_option maxHeartbeats 2000000 in
theorem f_X6_copy_L82_snd {fm : Value} {L : Nat} {xs : Nat → Int32} (d0 s0 : Nat) (hd : mStq d0) (hs : mStq s0) (y : mY) : ∀ (n : Nat) (a2 : Int32) (x : mX), mS fm L xs (fun r : mX => (mU, mk r y)) pg_X6_copy 82 [.ref d0, .ref s0, .int a2] [] (mk x y) (f_X6_copy_L82 d0 s0 n a2 x) := by
  intro n
  induction n with
  | zero => intro a2 x; exact mS_none
  | succ n ih =>
    intro a2 x
    rw [f_X6_copy_L82]
    refine mS_steps (pc' := 85) (ls' := [.ref d0, .ref s0, .int a2]) (st' := [.int (16 : Int32), .int a2]) (mem' := (mk x y)) 2 rfl ?_
    refine mS_ic3 rfl (fun _ => ?_) (fun _ => ?_)
    · exact mS_retv ⟨_, _, _, _, _, rfl⟩ rfl
    · refine mS_steps (pc' := 89) (ls' := [.ref d0, .ref s0, .int a2]) (st' := [.ref d0]) (mem' := (mk x y)) 1 rfl ?_
      refine mS_getqr10 rfl hd ?_
      refine mS_steps (pc' := 94) (ls' := [.ref d0, .ref s0, .int a2]) (st' := [.ref s0, .int a2, .ref (d0 + 1)]) (mem' := (mk x y)) 2 rfl ?_
      refine mS_getqr10 rfl hs ?_
      refine mS_steps (pc' := 98) (ls' := [.ref d0, .ref s0, .int a2]) (st' := [.int a2, .ref (s0 + 1), .int a2, .ref (d0 + 1)]) (mem' := (mk x y)) 1 rfl ?_
      refine mS_aldq1 rfl hs (fun _ => ?_)
      refine mS_astq1 rfl hd (fun _ => ?_)
      refine mS_letx (fun x11 => ?_)
      refine mS_steps (pc' := 101) (ls' := [.ref d0, .ref s0, .int a2]) (st' := [.ref d0]) (mem' := (mk x11 y)) 1 rfl ?_
      refine mS_getqr11 rfl hd ?_
      refine mS_steps (pc' := 106) (ls' := [.ref d0, .ref s0, .int a2]) (st' := [.ref s0, .int a2, .ref (d0 + 2)]) (mem' := (mk x11 y)) 2 rfl ?_
      refine mS_getqr11 rfl hs ?_
      refine mS_steps (pc' := 110) (ls' := [.ref d0, .ref s0, .int a2]) (st' := [.int a2, .ref (s0 + 2), .int a2, .ref (d0 + 2)]) (mem' := (mk x11 y)) 1 rfl ?_
      refine mS_aldq2 rfl hs (fun _ => ?_)
      refine mS_astq2 rfl hd (fun _ => ?_)
      refine mS_letx (fun x12 => ?_)
      refine mS_steps (pc' := 113) (ls' := [.ref d0, .ref s0, .int a2]) (st' := [.ref d0]) (mem' := (mk x12 y)) 1 rfl ?_
      refine mS_getqr12 rfl hd ?_
      refine mS_steps (pc' := 118) (ls' := [.ref d0, .ref s0, .int a2]) (st' := [.ref s0, .int a2, .ref (d0 + 3)]) (mem' := (mk x12 y)) 2 rfl ?_
      refine mS_getqr12 rfl hs ?_
      refine mS_steps (pc' := 122) (ls' := [.ref d0, .ref s0, .int a2]) (st' := [.int a2, .ref (s0 + 3), .int a2, .ref (d0 + 3)]) (mem' := (mk x12 y)) 1 rfl ?_
      refine mS_aldq3 rfl hs (fun _ => ?_)
      refine mS_astq3 rfl hd (fun _ => ?_)
      refine mS_letx (fun x13 => ?_)
      refine mS_steps (pc' := 125) (ls' := [.ref d0, .ref s0, .int a2]) (st' := [.ref d0]) (mem' := (mk x13 y)) 1 rfl ?_
      refine mS_getqr13 rfl hd ?_
      refine mS_steps (pc' := 130) (ls' := [.ref d0, .ref s0, .int a2]) (st' := [.ref s0, .int a2, .ref (d0 + 4)]) (mem' := (mk x13 y)) 2 rfl ?_
      refine mS_getqr13 rfl hs ?_
      refine mS_steps (pc' := 134) (ls' := [.ref d0, .ref s0, .int a2]) (st' := [.int a2, .ref (s0 + 4), .int a2, .ref (d0 + 4)]) (mem' := (mk x13 y)) 1 rfl ?_
      refine mS_aldq4 rfl hs (fun _ => ?_)
      refine mS_astq4 rfl hd (fun _ => ?_)
      refine mS_letx (fun x14 => ?_)
      refine mS_steps (pc' := 82) (ls' := [.ref d0, .ref s0, .int (a2 + (1 : Int32))]) (st' := []) (mem' := (mk x14 y)) 2 rfl ?_
      exact ih (a2 + (1 : Int32)) x14
set_option maxRecDepth 20000 in
set_option maxHeartbeats 2000000 in
theorem f_X6_copy_snd {fm : Value} {L : Nat} {xs : Nat → Int32} (d0 s0 : Nat) (hd : mStq d0) (hs : mStq s0) (x : mX) (y : mY) : mS fm L xs (fun r : mX => (mU, mk r y)) pg_X6_copy 0 (m_entry [.ref d0, .ref s0] 3) [] (mk x y) ((f_X6_copy d0 s0 x)) := by
  unfold f_X6_copy
  refine mS_steps (pc' := 0) (ls' := [.ref d0, .ref s0, mU]) (st' := []) (mem' := (mk x y)) 0 rfl ?_
  refine mS_steps (pc' := 2) (ls' := [.ref d0, .ref s0, mU]) (st' := [.ref s0, .ref d0]) (mem' := (mk x y)) 2 rfl ?_
  refine mS_getq rfl hs (by decide) ?_
  refine mS_putq rfl hd (by decide) ?_
  refine mS_letx (fun x1 => ?_)
  refine mS_steps (pc' := 10) (ls' := [.ref d0, .ref s0, mU]) (st' := [.ref s0, .ref d0]) (mem' := (mk x1 y)) 2 rfl ?_
  refine mS_getq rfl hs (by decide) ?_
  refine mS_putq rfl hd (by decide) ?_
  refine mS_letx (fun x2 => ?_)
  refine mS_steps (pc' := 18) (ls' := [.ref d0, .ref s0, mU]) (st' := [.ref s0, .ref d0]) (mem' := (mk x2 y)) 2 rfl ?_
  refine mS_getq rfl hs (by decide) ?_
  refine mS_putq rfl hd (by decide) ?_
  refine mS_letx (fun x3 => ?_)
  refine mS_steps (pc' := 26) (ls' := [.ref d0, .ref s0, mU]) (st' := [.ref s0, .ref d0]) (mem' := (mk x3 y)) 2 rfl ?_
  refine mS_getq rfl hs (by decide) ?_
  refine mS_putq rfl hd (by decide) ?_
  refine mS_letx (fun x4 => ?_)
  refine mS_steps (pc' := 34) (ls' := [.ref d0, .ref s0, mU]) (st' := [.ref s0, .ref d0]) (mem' := (mk x4 y)) 2 rfl ?_
  refine mS_getq rfl hs (by decide) ?_
  refine mS_putq rfl hd (by decide) ?_
  refine mS_letx (fun x5 => ?_)
  refine mS_steps (pc' := 42) (ls' := [.ref d0, .ref s0, mU]) (st' := [.ref s0, .ref d0]) (mem' := (mk x5 y)) 2 rfl ?_
  refine mS_getq rfl hs (by decide) ?_
  refine mS_putq rfl hd (by decide) ?_
  refine mS_letx (fun x6 => ?_)
  refine mS_steps (pc' := 50) (ls' := [.ref d0, .ref s0, mU]) (st' := [.ref s0, .ref d0]) (mem' := (mk x6 y)) 2 rfl ?_
  refine mS_getq rfl hs (by decide) ?_
  refine mS_putq rfl hd (by decide) ?_
  refine mS_letx (fun x7 => ?_)
  refine mS_steps (pc' := 58) (ls' := [.ref d0, .ref s0, mU]) (st' := [.ref s0, .ref d0]) (mem' := (mk x7 y)) 2 rfl ?_
  refine mS_getq rfl hs (by decide) ?_
  refine mS_putq rfl hd (by decide) ?_
  refine mS_letx (fun x8 => ?_)
  refine mS_steps (pc' := 66) (ls' := [.ref d0, .ref s0, mU]) (st' := [.ref s0, .ref d0]) (mem' := (mk x8 y)) 2 rfl ?_
  refine mS_getq rfl hs (by decide) ?_
  refine mS_putq rfl hd (by decide) ?_
  refine mS_letx (fun x9 => ?_)
  refine mS_steps (pc' := 74) (ls' := [.ref d0, .ref s0, mU]) (st' := [.ref s0, .ref d0]) (mem' := (mk x9 y)) 2 rfl ?_
  refine mS_getq rfl hs (by decide) ?_
  refine mS_putq rfl hd (by decide) ?_
  refine mS_letx (fun x10 => ?_)
  refine mS_steps (pc' := 82) (ls' := [.ref d0, .ref s0, .int (0 : Int32)]) (st' := []) (mem' := (mk x10 y)) 2 rfl ?_
  refine f_X6_copy_L82_snd d0 s0 hd hs y mF (0 : Int32) x10
def f_X2_forget (x : mX) : mX := (m_let (m_xs x 19 0 (0 : Int32)) fun x1 => x1)
set_option maxRecDepth 20000 in
set_option maxHeartbeats 2000000 in
theorem f_X2_forget_snd {fm : Value} {L : Nat} {xs : Nat → Int32} (x : mX) (y : mY) : mS fm L xs (fun r : mX => (mU, mk r y)) pg_X2_forget 0 (m_entry [.ref 19] 1) [] (mk x y) (some (f_X2_forget x)) := by
  unfold f_X2_forget
  refine mS_steps (pc' := 0) (ls' := [.ref 19]) (st' := []) (mem' := (mk x y)) 0 rfl ?_
  refine mS_steps (pc' := 2) (ls' := [.ref 19]) (st' := [.int (0 : Int32), .ref 19]) (mem' := (mk x y)) 2 rfl ?_
  refine mS_putx rfl rfl (by decide) rfl ?_
  refine mS_letxT (fun x1 => ?_)
  exact mS_retv ⟨_, _, _, _, _, rfl⟩ rfl
def f_X10_allChanged (x : mX) : mX := (m_let (m_xs x 0 6 (1 : Int32)) fun x1 => (m_let (m_xs x1 0 8 (1 : Int32)) fun x2 => x2))
set_option maxRecDepth 20000 in
set_option maxHeartbeats 2000000 in
theorem f_X10_allChanged_snd {fm : Value} {L : Nat} {xs : Nat → Int32} (x : mX) (y : mY) : mS fm L xs (fun r : mX => (mU, mk r y)) pg_X10_allChanged 0 (m_entry [.ref 0] 1) [] (mk x y) (some (f_X10_allChanged x)) := by
  unfold f_X10_allChanged
  refine mS_steps (pc' := 0) (ls' := [.ref 0]) (st' := []) (mem' := (mk x y)) 0 rfl ?_
  refine mS_steps (pc' := 2) (ls' := [.ref 0]) (st' := [.int (1 : Int32), .ref 0]) (mem' := (mk x y)) 2 rfl ?_
  refine mS_putcx rfl rfl (by decide) rfl (by decide) ?_
  refine mS_letxT (fun x1 => ?_)
  refine mS_steps (pc' := 7) (ls' := [.ref 0]) (st' := [.int (1 : Int32), .ref 0]) (mem' := (mk x1 y)) 2 rfl ?_
  refine mS_putcx rfl rfl (by decide) rfl (by decide) ?_
  refine mS_letxT (fun x2 => ?_)
  exact mS_retv ⟨_, _, _, _, _, rfl⟩ rfl
def f_X10_read (x : mX) : Option (Int32 × mX) := ((f_X5_parse x).bind fun q1 => (if q1.1 = 0 then ((f_X6_copy 14 2 q1.2).bind fun q2 => (m_let (f_X2_forget q2) fun x3 => (m_let (m_xs x3 0 4 (0 : Int32)) fun x4 => (m_let (f_X10_allChanged x4) fun x5 => (some (q1.1, x5)))))) else (some (q1.1, q1.2))))
set_option maxRecDepth 20000 in
set_option maxHeartbeats 2000000 in
theorem f_X10_read_snd {fm : Value} {L : Nat} {xs : Nat → Int32} (hfm : fm = .null ∨ fm = .ref (mBIG + 200)) (x : mX) (y : mY) : mS fm L xs (fun r : (Int32 × mX) => (.int r.1, mk r.2 y)) pg_X10_read 0 (m_entry [.ref 0] 2) [] (mk x y) ((f_X10_read x)) := by
  unfold f_X10_read
  refine mS_steps (pc' := 0) (ls' := [.ref 0, mU]) (st' := []) (mem' := (mk x y)) 0 rfl ?_
  refine mS_steps (pc' := 4) (ls' := [.ref 0, mU]) (st' := [.ref 1]) (mem' := (mk x y)) 2 rfl ?_
  refine mS_bind (fun q1 hq1 => mS_call 63 1 [.ref 1] [] rfl rfl rfl ⟨_, _, _, rfl, rfl⟩ (Nat.le_of_ble_eq_true rfl) (Nat.le_of_ble_eq_true rfl) hq1 (f_X5_parse_snd hfm  x y) ?_)
  refine mS_steps (pc' := 9) (ls' := [.ref 0, .int q1.1]) (st' := [.int q1.1]) (mem' := (mk q1.2 y)) 2 rfl ?_
  refine mS_if1 rfl (fun _ => ?_) (fun _ => ?_)
  · refine mS_steps (pc' := 23) (ls' := [.ref 0, .int q1.1]) (st' := [.ref 2, .ref 14]) (mem' := (mk q1.2 y)) 5 rfl ?_
    refine mS_bind (fun q2 hq2 => mS_call 64 2 [.ref 14, .ref 2] [] rfl rfl rfl ⟨_, _, _, rfl, rfl⟩ (Nat.le_of_ble_eq_true rfl) (Nat.le_of_ble_eq_true rfl) hq2 (f_X6_copy_snd 14 2 (m_stq 14 (by decide)) (m_stq 2 (by decide)) q1.2 y) ?_)
    refine mS_steps (pc' := 30) (ls' := [.ref 0, .int q1.1]) (st' := [.ref 19]) (mem' := (mk q2 y)) 2 rfl ?_
    refine mS_call (q := (f_X2_forget q2)) 65 1 [.ref 19] [] rfl rfl rfl ⟨_, _, _, rfl, rfl⟩ (Nat.le_of_ble_eq_true rfl) (Nat.le_of_ble_eq_true rfl) rfl (f_X2_forget_snd  q2 y) ?_
    refine mS_letx (fun x3 => ?_)
    refine mS_steps (pc' := 35) (ls' := [.ref 0, .int q1.1]) (st' := [.int (0 : Int32), .ref 0]) (mem' := (mk x3 y)) 2 rfl ?_
    refine mS_putx rfl rfl (by decide) rfl ?_
    refine mS_letx (fun x4 => ?_)
    refine mS_steps (pc' := 39) (ls' := [.ref 0, .int q1.1]) (st' := [.ref 0]) (mem' := (mk x4 y)) 1 rfl ?_
    refine mS_call (q := (f_X10_allChanged x4)) 66 1 [.ref 0] [] rfl rfl rfl ⟨_, _, _, rfl, rfl⟩ (Nat.le_of_ble_eq_true rfl) (Nat.le_of_ble_eq_true rfl) rfl (f_X10_allChanged_snd  x4 y) ?_
    refine mS_letx (fun x5 => ?_)
    refine mS_steps (pc' := 43) (ls' := [.ref 0, .int q1.1]) (st' := [.int q1.1]) (mem' := (mk x5 y)) 1 rfl ?_
    exact mS_reti ⟨_, _, _, _, _, rfl, rfl⟩ rfl
  · refine mS_steps (pc' := 43) (ls' := [.ref 0, .int q1.1]) (st' := [.int q1.1]) (mem' := (mk q1.2 y)) 1 rfl ?_
    exact mS_reti ⟨_, _, _, _, _, rfl, rfl⟩ rfl
def f_X11_byteAt (p1 : Int32) (y : mY) : Option Int32 := (if (y.1 279 4) ≤ p1 then (some (0 : Int32)) else (if m_in p1 2000 = true then (some ((y.1 281 p1.toNatClampNeg) &&& (255 : Int32))) else none))
set_option maxRecDepth 20000 in
set_option maxHeartbeats 2000000 in
theorem f_X11_byteAt_snd {fm : Value} {L : Nat} {xs : Nat → Int32} (p1 : Int32) (y : mY) (x : mX) : mS fm L xs (fun r : Int32 => (.int r, (mk x y))) pg_X11_byteAt 0 (m_entry [.ref 279, .int p1] 2) [] (mk x y) ((f_X11_byteAt p1 y)) := by
  unfold f_X11_byteAt
  refine mS_steps (pc' := 0) (ls' := [.ref 279, .int p1]) (st' := []) (mem' := (mk x y)) 0 rfl ?_
  refine mS_steps (pc' := 5) (ls' := [.ref 279, .int p1]) (st' := [.int (y.1 279 4), .int p1]) (mem' := (mk x y)) 3 rfl ?_
  refine mS_ic3 rfl (fun _ => ?_) (fun _ => ?_)
  · refine mS_steps (pc' := 22) (ls' := [.ref 279, .int p1]) (st' := [.int (0 : Int32)]) (mem' := (mk x y)) 1 rfl ?_
    exact mS_reti ⟨_, _, _, _, _, rfl, rfl⟩ rfl
  · refine mS_steps (pc' := 13) (ls' := [.ref 279, .int p1]) (st' := [.int p1, .ref 281]) (mem' := (mk x y)) 3 rfl ?_
    refine mS_ald (b := 2) (n := 2000) (z := (y.1 281 p1.toNatClampNeg)) rfl (by decide) rfl (by decide) rfl (fun _ => ?_)
    refine mS_steps (pc' := 22) (ls' := [.ref 279, .int p1]) (st' := [.int ((y.1 281 p1.toNatClampNeg) &&& (255 : Int32))]) (mem' := (mk x y)) 3 rfl ?_
    exact mS_reti ⟨_, _, _, _, _, rfl, rfl⟩ rfl
def f_X11_token (p1 : Int32) (p2 : Int32) (p3 : Int32) (p4 : Int64) (y : mY) : Option mY := (if m_in (y.1 279 10) 403 = true then (m_let (m_ys y 282 (y.1 279 10).toNatClampNeg p1) fun y1 => (if m_in (y1.1 279 10) 403 = true then (m_let (m_ys y1 283 (y1.1 279 10).toNatClampNeg p2) fun y2 => (if m_in (y2.1 279 10) 403 = true then (m_let (m_ys y2 284 (y2.1 279 10).toNatClampNeg p3) fun y3 => (if m_in (y3.1 279 10) 403 = true then (m_let (m_yl y3 285 (y3.1 279 10).toNatClampNeg p4) fun y4 => (m_let (m_ys y4 279 10 ((y4.1 279 10) + (1 : Int32))) fun y5 => (some y5))) else none)) else none)) else none)) else none)
set_option maxRecDepth 20000 in
set_option maxHeartbeats 2000000 in
theorem f_X11_token_snd {fm : Value} {L : Nat} {xs : Nat → Int32} (p1 : Int32) (p2 : Int32) (p3 : Int32) (p4 : Int64) (y : mY) (x : mX) : mS fm L xs (fun r : mY => (mU, mk x r)) pg_X11_token 0 (m_entry [.ref 279, .int p1, .int p2, .int p3, .long p4] 6) [] (mk x y) ((f_X11_token p1 p2 p3 p4 y)) := by
  unfold f_X11_token
  refine mS_steps (pc' := 0) (ls' := [.ref 279, .int p1, .int p2, .int p3, .long p4, mU]) (st' := []) (mem' := (mk x y)) 0 rfl ?_
  refine mS_steps (pc' := 9) (ls' := [.ref 279, .int p1, .int p2, .int p3, .long p4, mU]) (st' := [.int p1, .int (y.1 279 10), .ref 282]) (mem' := (mk x y)) 5 rfl ?_
  refine mS_ast0y (n := 403) rfl rfl (by decide) (fun _ => ?_)
  refine mS_lety (fun y1 => ?_)
  refine mS_steps (pc' := 19) (ls' := [.ref 279, .int p1, .int p2, .int p3, .long p4, mU]) (st' := [.int p2, .int (y1.1 279 10), .ref 283]) (mem' := (mk x y1)) 5 rfl ?_
  refine mS_ast0y (n := 403) rfl rfl (by decide) (fun _ => ?_)
  refine mS_lety (fun y2 => ?_)
  refine mS_steps (pc' := 29) (ls' := [.ref 279, .int p1, .int p2, .int p3, .long p4, mU]) (st' := [.int p3, .int (y2.1 279 10), .ref 284]) (mem' := (mk x y2)) 5 rfl ?_
  refine mS_ast0y (n := 403) rfl rfl (by decide) (fun _ => ?_)
  refine mS_lety (fun y3 => ?_)
  refine mS_steps (pc' := 40) (ls' := [.ref 279, .int p1, .int p2, .int p3, .long p4, mU]) (st' := [.long p4, .int (y3.1 279 10), .ref 285]) (mem' := (mk x y3)) 5 rfl ?_
  refine mS_lastorey (n := 403) rfl rfl (by decide) (fun _ => ?_)
  refine mS_lety (fun y4 => ?_)
  refine mS_steps (pc' := 48) (ls' := [.ref 279, .int p1, .int p2, .int p3, .long p4, mU]) (st' := [.int ((y4.1 279 10) + (1 : Int32)), .ref 279]) (mem' := (mk x y4)) 5 rfl ?_
  refine mS_puty rfl rfl (by decide) rfl ?_
  refine mS_lety (fun y5 => ?_)
  exact mS_retv ⟨_, _, _, _, _, rfl⟩ rfl
def f_X11_isLetter (p0 : Int32) : Int32 := (if p0 < (97 : Int32) then (0 : Int32) else (if (122 : Int32) < p0 then (0 : Int32) else (1 : Int32)))
set_option maxRecDepth 20000 in
set_option maxHeartbeats 2000000 in
theorem f_X11_isLetter_snd {fm : Value} {L : Nat} {xs : Nat → Int32} (p0 : Int32) (mem : mM) : mS fm L xs (fun r : Int32 => (.int r, mem)) pg_X11_isLetter 0 (m_entry [.int p0] 1) [] mem (some (f_X11_isLetter p0)) := by
  unfold f_X11_isLetter
  refine mS_steps (pc' := 0) (ls' := [.int p0]) (st' := []) (mem' := mem) 0 rfl ?_
  refine mS_steps (pc' := 3) (ls' := [.int p0]) (st' := [.int (97 : Int32), .int p0]) (mem' := mem) 2 rfl ?_
  refine mS_ic2T rfl (fun _ => ?_) (fun _ => ?_)
  · refine mS_steps (pc' := 17) (ls' := [.int p0]) (st' := [.int (0 : Int32)]) (mem' := mem) 1 rfl ?_
    exact mS_reti ⟨_, _, _, _, _, rfl, (by decide)⟩ rfl
  · refine mS_steps (pc' := 9) (ls' := [.int p0]) (st' := [.int (122 : Int32), .int p0]) (mem' := mem) 2 rfl ?_
    refine mS_ic4T rfl (fun _ => ?_) (fun _ => ?_)
    · refine mS_steps (pc' := 17) (ls' := [.int p0]) (st' := [.int (0 : Int32)]) (mem' := mem) 1 rfl ?_
      exact mS_reti ⟨_, _, _, _, _, rfl, (by decide)⟩ rfl
    · refine mS_steps (pc' := 17) (ls' := [.int p0]) (st' := [.int (1 : Int32)]) (mem' := mem) 2 rfl ?_
      exact mS_reti ⟨_, _, _, _, _, rfl, (by decide)⟩ rfl
def f_X11_isDigit (p0 : Int32) : Int32 := (if p0 < (48 : Int32) then (0 : Int32) else (if (57 : Int32) < p0 then (0 : Int32) else (1 : Int32)))
set_option maxRecDepth 20000 in
set_option maxHeartbeats 2000000 in
theorem f_X11_isDigit_snd {fm : Value} {L : Nat} {xs : Nat → Int32} (p0 : Int32) (mem : mM) : mS fm L xs (fun r : Int32 => (.int r, mem)) pg_X11_isDigit 0 (m_entry [.int p0] 1) [] mem (some (f_X11_isDigit p0)) := by
  unfold f_X11_isDigit
  refine mS_steps (pc' := 0) (ls' := [.int p0]) (st' := []) (mem' := mem) 0 rfl ?_
  refine mS_steps (pc' := 3) (ls' := [.int p0]) (st' := [.int (48 : Int32), .int p0]) (mem' := mem) 2 rfl ?_
  refine mS_ic2T rfl (fun _ => ?_) (fun _ => ?_)
  · refine mS_steps (pc' := 17) (ls' := [.int p0]) (st' := [.int (0 : Int32)]) (mem' := mem) 1 rfl ?_
    exact mS_reti ⟨_, _, _, _, _, rfl, (by decide)⟩ rfl
  · refine mS_steps (pc' := 9) (ls' := [.int p0]) (st' := [.int (57 : Int32), .int p0]) (mem' := mem) 2 rfl ?_
    refine mS_ic4T rfl (fun _ => ?_) (fun _ => ?_)
    · refine mS_steps (pc' := 17) (ls' := [.int p0]) (st' := [.int (0 : Int32)]) (mem' := mem) 1 rfl ?_
      exact mS_reti ⟨_, _, _, _, _, rfl, (by decide)⟩ rfl
    · refine mS_steps (pc' := 17) (ls' := [.int p0]) (st' := [.int (1 : Int32)]) (mem' := mem) 2 rfl ?_
      exact mS_reti ⟨_, _, _, _, _, rfl, (by decide)⟩ rfl
def f_X11_sign (p1 : Int32) (p2 : Int32) (p3 : Int32) (y : mY) : Option (Int32 × mY) := (if p2 = (59 : Int32) then ((f_X11_token (4 : Int32) p1 (0 : Int32) (0 : Int64) y).bind fun q1 => (some ((1 : Int32), q1))) else ((f_X11_token (3 : Int32) p1 (0 : Int32) (0 : Int64) y).bind fun q2 => (some ((1 : Int32), q2))))
set_option maxRecDepth 20000 in
set_option maxHeartbeats 2000000 in
theorem f_X11_sign_snd {fm : Value} {L : Nat} {xs : Nat → Int32} (p1 : Int32) (p2 : Int32) (p3 : Int32) (y : mY) (x : mX) : mS fm L xs (fun r : (Int32 × mY) => (.int r.1, mk x r.2)) pg_X11_sign 0 (m_entry [.ref 279, .int p1, .int p2, .int p3] 4) [] (mk x y) ((f_X11_sign p1 p2 p3 y)) := by
  unfold f_X11_sign
  refine mS_steps (pc' := 0) (ls' := [.ref 279, .int p1, .int p2, .int p3]) (st' := []) (mem' := (mk x y)) 0 rfl ?_
  refine mS_steps (pc' := 4) (ls' := [.ref 279, .int p1, .int p2, .int p3]) (st' := [.int (59 : Int32), .int p2, .ref 279]) (mem' := (mk x y)) 3 rfl ?_
  refine mS_ic1 rfl (fun _ => ?_) (fun _ => ?_)
  · refine mS_steps (pc' := 15) (ls' := [.ref 279, .int p1, .int p2, .int p3]) (st' := [.long (0 : Int64), .int (0 : Int32), .int p1, .int (4 : Int32), .ref 279]) (mem' := (mk x y)) 5 rfl ?_
    refine mS_bind (fun q1 hq1 => mS_call 69 5 [.ref 279, .int (4 : Int32), .int p1, .int (0 : Int32), .long (0 : Int64)] [] rfl rfl rfl ⟨_, _, _, rfl, rfl⟩ (Nat.le_of_ble_eq_true rfl) (Nat.le_of_ble_eq_true rfl) hq1 (f_X11_token_snd (4 : Int32) p1 (0 : Int32) (0 : Int64) y x) ?_)
    refine mS_steps (pc' := 19) (ls' := [.ref 279, .int p1, .int p2, .int p3]) (st' := [.int (1 : Int32)]) (mem' := (mk x q1)) 1 rfl ?_
    exact mS_reti ⟨_, _, _, _, _, rfl, rfl⟩ rfl
  · refine mS_steps (pc' := 15) (ls' := [.ref 279, .int p1, .int p2, .int p3]) (st' := [.long (0 : Int64), .int (0 : Int32), .int p1, .int (3 : Int32), .ref 279]) (mem' := (mk x y)) 4 rfl ?_
    refine mS_bind (fun q2 hq2 => mS_call 69 5 [.ref 279, .int (3 : Int32), .int p1, .int (0 : Int32), .long (0 : Int64)] [] rfl rfl rfl ⟨_, _, _, rfl, rfl⟩ (Nat.le_of_ble_eq_true rfl) (Nat.le_of_ble_eq_true rfl) hq2 (f_X11_token_snd (3 : Int32) p1 (0 : Int32) (0 : Int64) y x) ?_)
    refine mS_steps (pc' := 19) (ls' := [.ref 279, .int p1, .int p2, .int p3]) (st' := [.int (1 : Int32)]) (mem' := (mk x q2)) 1 rfl ?_
    exact mS_reti ⟨_, _, _, _, _, rfl, rfl⟩ rfl
def f_X11_parts_L207 (a1 : Int32) : Nat → Int32 → Int32 → mY → (Int32 → Int32 → Option mY) → Option mY
  | 0, _, _, _, _ => none
  | n + 1, a3, a4, y, k249 => ((f_X11_byteAt (a1 + a3) y).bind fun q5 => (if (f_X11_isDigit q5) = 0 then (k249 a3 a4) else (if (4 : Int32) ≤ a3 then (f_X11_parts_L207 a1 n (a3 + (1 : Int32)) a4 y k249) else ((f_X11_byteAt (a1 + a3) y).bind fun q6 => (f_X11_parts_L207 a1 n (a3 + (1 : Int32)) ((((10 : Int32) * a4) + q6) - (48 : Int32)) y k249)))))
def f_X11_parts_L85 (a1 : Int32) : Nat → Int32 → Int64 → mY → (Int32 → Int64 → Option mY) → Option mY
  | 0, _, _, _, _ => none
  | n + 1, a3, a4, y, k124 => ((f_X11_byteAt (a1 + a3) y).bind fun q12 => (if (f_X11_isLetter q12) = 0 then (k124 a3 a4) else (if (8 : Int32) ≤ a3 then (f_X11_parts_L85 a1 n (a3 + (1 : Int32)) a4 y k124) else ((f_X11_byteAt (a1 + a3) y).bind fun q13 => ((f_X11_appends a4 q13).bind fun q14 => (f_X11_parts_L85 a1 n (a3 + (1 : Int32)) q14 y k124))))))
def f_X11_parts_L146 (a4 : Int64) : Nat → Int32 → Int32 → mY → (Int32 → Option mY) → Option mY
  | 0, _, _, _, _ => none
  | n + 1, a6, a7, y, k178 => (if (5 : Int32) ≤ a7 then (k178 a6) else (if m_in a7 5 = true then (if (lg_cmp (y.2 286 a7.toNatClampNeg) a4) = 0 then (f_X11_parts_L146 a4 n ((20 : Int32) + a7) (a7 + (1 : Int32)) y k178) else (f_X11_parts_L146 a4 n a6 (a7 + (1 : Int32)) y k178)) else none))
def f_X11_parts_L7 : Nat → Int32 → mY → (mY → Option mY) → Option mY
  | 0, _, _, _ => none
  | n + 1, a1, y, k31 => (if (400 : Int32) < (y.1 279 10) then (some y) else ((f_X11_byteAt a1 y).bind fun q2 => (if a1 < (y.1 279 4) then (if q2 = (9 : Int32) then (f_X11_parts_L7 n (a1 + (1 : Int32)) y k31) else (if q2 = (10 : Int32) then (f_X11_parts_L7 n (a1 + (1 : Int32)) y k31) else (if q2 = (13 : Int32) then (f_X11_parts_L7 n (a1 + (1 : Int32)) y k31) else (if q2 = (32 : Int32) then (f_X11_parts_L7 n (a1 + (1 : Int32)) y k31) else (if (f_X11_isLetter q2) = 0 then (if (f_X11_isDigit q2) = 0 then ((f_X11_byteAt (a1 + (1 : Int32)) y).bind fun q3 => ((f_X11_sign a1 q2 q3 y).bind fun q4 => (f_X11_parts_L7 n (a1 + q4.1) q4.2 k31))) else (f_X11_parts_L207 a1 mF (0 : Int32) (0 : Int32) y (fun v7 v8 => (m_jn (fun w10 => ((f_X11_token w10 a1 v8 (0 : Int64) y).bind fun q11 => (f_X11_parts_L7 n (a1 + v7) q11 k31))) (fun j9 => if v7 ≤ (4 : Int32) then (j9 (2 : Int32)) else (j9 (3 : Int32))))))) else (f_X11_parts_L85 a1 mF (0 : Int32) (0 : Int64) y (fun v15 v16 => (m_jn (fun w18 => (m_jn (fun v20 => ((f_X11_token v20 a1 (0 : Int32) v16 y).bind fun q21 => (f_X11_parts_L7 n (a1 + v15) q21 k31))) (fun j19 => if (8 : Int32) < v15 then (j19 w18) else (f_X11_parts_L146 v16 mF w18 (0 : Int32) y (fun v22 => (j19 v22)))))) (fun j17 => if v15 ≤ (8 : Int32) then (j17 (1 : Int32)) else (j17 (3 : Int32))))))))))) else (k31 y))))
def f_X11_parts (y : mY) : Option mY := (m_let (m_ys y 279 10 (0 : Int32)) fun y1 => (f_X11_parts_L7 mF (0 : Int32) y1 (fun y23 => ((f_X11_token (0 : Int32) (y23.1 279 4) (0 : Int32) (0 : Int64) y23).bind fun q24 => (some q24)))))
set_option maxRecDepth 20000 in
set_option maxHeartbeats 2000000 in
theorem f_X11_parts_L207_snd {fm : Value} {L : Nat} {xs : Nat → Int32} (a1 : Int32) (y : mY) (x : mX) (k249 : Int32 → Int32 → Option mY) (hk249 : ∀ (b3 : Int32) (b4 : Int32), mS fm L xs (fun r : mY => (mU, mk x r)) pg_X11_parts 249 [.ref 279, .int a1, mU, .int b3, .int b4, mU, mU, mU] [] (mk x y) (k249 b3 b4)) : ∀ (n : Nat) (a3 : Int32) (a4 : Int32), mS fm L xs (fun r : mY => (mU, mk x r)) pg_X11_parts 207 [.ref 279, .int a1, mU, .int a3, .int a4, mU, mU, mU] [] (mk x y) (f_X11_parts_L207 a1 n a3 a4 y k249) := by
  intro n
  induction n with
  | zero => intro a3 a4; exact mS_none
  | succ n ih =>
    intro a3 a4
    rw [f_X11_parts_L207]
    refine mS_steps (pc' := 211) (ls' := [.ref 279, .int a1, mU, .int a3, .int a4, mU, mU, mU]) (st' := [.int (a1 + a3), .ref 279]) (mem' := (mk x y)) 4 rfl ?_
    refine mS_bind (fun q5 hq5 => mS_call 68 2 [.ref 279, .int (a1 + a3)] [] rfl rfl rfl ⟨_, _, _, rfl, rfl⟩ (Nat.le_of_ble_eq_true rfl) (Nat.le_of_ble_eq_true rfl) hq5 (f_X11_byteAt_snd (a1 + a3) y x) ?_)
    refine mS_steps (pc' := 214) (ls' := [.ref 279, .int a1, mU, .int a3, .int a4, mU, mU, mU]) (st' := [.int q5]) (mem' := (mk x y)) 0 rfl ?_
    refine mS_call (q := (f_X11_isDigit q5)) 71 1 [.int q5] [] rfl rfl rfl ⟨_, _, _, rfl, rfl⟩ (Nat.le_of_ble_eq_true rfl) (Nat.le_of_ble_eq_true rfl) rfl (f_X11_isDigit_snd q5 (mk x y)) ?_
    refine mS_steps (pc' := 217) (ls' := [.ref 279, .int a1, mU, .int a3, .int a4, mU, mU, mU]) (st' := [.int (f_X11_isDigit q5)]) (mem' := (mk x y)) 0 rfl ?_
    refine mS_if0 rfl (fun _ => ?_) (fun _ => ?_)
    · exact hk249 a3 a4
    · refine mS_steps (pc' := 222) (ls' := [.ref 279, .int a1, mU, .int a3, .int a4, mU, mU, mU]) (st' := [.int (4 : Int32), .int a3]) (mem' := (mk x y)) 2 rfl ?_
      refine mS_ic3 rfl (fun _ => ?_) (fun _ => ?_)
      · refine mS_steps (pc' := 207) (ls' := [.ref 279, .int a1, mU, .int (a3 + (1 : Int32)), .int a4, mU, mU, mU]) (st' := []) (mem' := (mk x y)) 2 rfl ?_
        exact ih (a3 + (1 : Int32)) a4
      · refine mS_steps (pc' := 234) (ls' := [.ref 279, .int a1, mU, .int a3, .int a4, mU, mU, mU]) (st' := [.int (a1 + a3), .ref 279, .int ((10 : Int32) * a4)]) (mem' := (mk x y)) 7 rfl ?_
        refine mS_bind (fun q6 hq6 => mS_call 68 2 [.ref 279, .int (a1 + a3)] [.int ((10 : Int32) * a4)] rfl rfl rfl ⟨_, _, _, rfl, rfl⟩ (Nat.le_of_ble_eq_true rfl) (Nat.le_of_ble_eq_true rfl) hq6 (f_X11_byteAt_snd (a1 + a3) y x) ?_)
        refine mS_steps (pc' := 207) (ls' := [.ref 279, .int a1, mU, .int (a3 + (1 : Int32)), .int ((((10 : Int32) * a4) + q6) - (48 : Int32)), mU, mU, mU]) (st' := []) (mem' := (mk x y)) 6 rfl ?_
        exact ih (a3 + (1 : Int32)) ((((10 : Int32) * a4) + q6) - (48 : Int32))
set_option maxRecDepth 20000 in
set_option maxHeartbeats 2000000 in
theorem f_X11_parts_L85_snd {fm : Value} {L : Nat} {xs : Nat → Int32} (a1 : Int32) (y : mY) (x : mX) (k124 : Int32 → Int64 → Option mY) (hk124 : ∀ (b3 : Int32) (b4 : Int64), mS fm L xs (fun r : mY => (mU, mk x r)) pg_X11_parts 124 [.ref 279, .int a1, mU, .int b3, .long b4, mU, mU, mU] [] (mk x y) (k124 b3 b4)) : ∀ (n : Nat) (a3 : Int32) (a4 : Int64), mS fm L xs (fun r : mY => (mU, mk x r)) pg_X11_parts 85 [.ref 279, .int a1, mU, .int a3, .long a4, mU, mU, mU] [] (mk x y) (f_X11_parts_L85 a1 n a3 a4 y k124) := by
  intro n
  induction n with
  | zero => intro a3 a4; exact mS_none
  | succ n ih =>
    intro a3 a4
    rw [f_X11_parts_L85]
    refine mS_steps (pc' := 89) (ls' := [.ref 279, .int a1, mU, .int a3, .long a4, mU, mU, mU]) (st' := [.int (a1 + a3), .ref 279]) (mem' := (mk x y)) 4 rfl ?_
    refine mS_bind (fun q12 hq12 => mS_call 68 2 [.ref 279, .int (a1 + a3)] [] rfl rfl rfl ⟨_, _, _, rfl, rfl⟩ (Nat.le_of_ble_eq_true rfl) (Nat.le_of_ble_eq_true rfl) hq12 (f_X11_byteAt_snd (a1 + a3) y x) ?_)
    refine mS_steps (pc' := 92) (ls' := [.ref 279, .int a1, mU, .int a3, .long a4, mU, mU, mU]) (st' := [.int q12]) (mem' := (mk x y)) 0 rfl ?_
    refine mS_call (q := (f_X11_isLetter q12)) 70 1 [.int q12] [] rfl rfl rfl ⟨_, _, _, rfl, rfl⟩ (Nat.le_of_ble_eq_true rfl) (Nat.le_of_ble_eq_true rfl) rfl (f_X11_isLetter_snd q12 (mk x y)) ?_
    refine mS_steps (pc' := 95) (ls' := [.ref 279, .int a1, mU, .int a3, .long a4, mU, mU, mU]) (st' := [.int (f_X11_isLetter q12)]) (mem' := (mk x y)) 0 rfl ?_
    refine mS_if0 rfl (fun _ => ?_) (fun _ => ?_)
    · exact hk124 a3 a4
    · refine mS_steps (pc' := 101) (ls' := [.ref 279, .int a1, mU, .int a3, .long a4, mU, mU, mU]) (st' := [.int (8 : Int32), .int a3]) (mem' := (mk x y)) 2 rfl ?_
      refine mS_ic3 rfl (fun _ => ?_) (fun _ => ?_)
      · refine mS_steps (pc' := 85) (ls' := [.ref 279, .int a1, mU, .int (a3 + (1 : Int32)), .long a4, mU, mU, mU]) (st' := []) (mem' := (mk x y)) 2 rfl ?_
        exact ih (a3 + (1 : Int32)) a4
      · refine mS_steps (pc' := 110) (ls' := [.ref 279, .int a1, mU, .int a3, .long a4, mU, mU, mU]) (st' := [.int (a1 + a3), .ref 279, .long a4]) (mem' := (mk x y)) 5 rfl ?_
        refine mS_bind (fun q13 hq13 => mS_call 68 2 [.ref 279, .int (a1 + a3)] [.long a4] rfl rfl rfl ⟨_, _, _, rfl, rfl⟩ (Nat.le_of_ble_eq_true rfl) (Nat.le_of_ble_eq_true rfl) hq13 (f_X11_byteAt_snd (a1 + a3) y x) ?_)
        refine mS_steps (pc' := 113) (ls' := [.ref 279, .int a1, mU, .int a3, .long a4, mU, mU, mU]) (st' := [.int q13, .long a4]) (mem' := (mk x y)) 0 rfl ?_
        refine mS_bind (fun q14 hq14 => mS_call 11 2 [.long a4, .int q13] [] rfl rfl rfl ⟨_, _, _, rfl, rfl⟩ (Nat.le_of_ble_eq_true rfl) (Nat.le_of_ble_eq_true rfl) hq14 (f_X11_appends_snd a4 q13 (mk x y)) ?_)
        refine mS_steps (pc' := 85) (ls' := [.ref 279, .int a1, mU, .int (a3 + (1 : Int32)), .long q14, mU, mU, mU]) (st' := []) (mem' := (mk x y)) 3 rfl ?_
        exact ih (a3 + (1 : Int32)) q14
set_option maxRecDepth 20000 in
set_option maxHeartbeats 2000000 in
theorem f_X11_parts_L146_snd {fm : Value} {L : Nat} {xs : Nat → Int32} (a1 : Int32) (a3 : Int32) (a4 : Int64) (y : mY) (x : mX) (k178 : Int32 → Option mY) (hk178 : ∀ (b6 : Int32), mS fm L xs (fun r : mY => (mU, mk x r)) pg_X11_parts 178 [.ref 279, .int a1, mU, .int a3, .long a4, mU, .int b6, mU] [] (mk x y) (k178 b6)) : ∀ (n : Nat) (a6 : Int32) (a7 : Int32), mS fm L xs (fun r : mY => (mU, mk x r)) pg_X11_parts 146 [.ref 279, .int a1, mU, .int a3, .long a4, mU, .int a6, .int a7] [] (mk x y) (f_X11_parts_L146 a4 n a6 a7 y k178) := by
  intro n
  induction n with
  | zero => intro a6 a7; exact mS_none
  | succ n ih =>
    intro a6 a7
    rw [f_X11_parts_L146]
    refine mS_steps (pc' := 149) (ls' := [.ref 279, .int a1, mU, .int a3, .long a4, mU, .int a6, .int a7]) (st' := [.int (5 : Int32), .int a7]) (mem' := (mk x y)) 2 rfl ?_
    refine mS_ic3 rfl (fun _ => ?_) (fun _ => ?_)
    · refine mS_forget [.ref 279, .int a1, mU, .int a3, .long a4, mU, .int a6, mU] ⟨Or.inr rfl, Or.inr rfl, Or.inl rfl, Or.inr rfl, Or.inr rfl, Or.inl rfl, Or.inr rfl, Or.inl rfl, trivial⟩ ?_
      exact hk178 a6
    · refine mS_steps (pc' := 158) (ls' := [.ref 279, .int a1, mU, .int a3, .long a4, mU, .int a6, .int a7]) (st' := [.int a7, .ref 286]) (mem' := (mk x y)) 3 rfl ?_
      refine mS_lald (b := 1) (n := 5) (z := (y.2 286 a7.toNatClampNeg)) rfl rfl (by decide) rfl (fun _ => ?_)
      refine mS_steps (pc' := 162) (ls' := [.ref 279, .int a1, mU, .int a3, .long a4, mU, .int a6, .int a7]) (st' := [.int (lg_cmp (y.2 286 a7.toNatClampNeg) a4)]) (mem' := (mk x y)) 2 rfl ?_
      refine mS_if1 rfl (fun _ => ?_) (fun _ => ?_)
      · refine mS_steps (pc' := 146) (ls' := [.ref 279, .int a1, mU, .int a3, .long a4, mU, .int ((20 : Int32) + a7), .int (a7 + (1 : Int32))]) (st' := []) (mem' := (mk x y)) 6 rfl ?_
        exact ih ((20 : Int32) + a7) (a7 + (1 : Int32))
      · refine mS_steps (pc' := 146) (ls' := [.ref 279, .int a1, mU, .int a3, .long a4, mU, .int a6, .int (a7 + (1 : Int32))]) (st' := []) (mem' := (mk x y)) 2 rfl ?_
        exact ih a6 (a7 + (1 : Int32))
set_option maxRecDepth 20000 in
set_option maxHeartbeats 2000000 in
theorem f_X11_parts_L7_snd {fm : Value} {L : Nat} {xs : Nat → Int32} (x : mX) (k31 : mY → Option mY) (hk31 : ∀ (z0 : mY), mS fm L xs (fun r : mY => (mU, mk x r)) pg_X11_parts 31 [.ref 279, mU, mU, mU, mU, mU, mU, mU] [] (mk x z0) (k31 z0)) : ∀ (n : Nat) (a1 : Int32) (y : mY), mS fm L xs (fun r : mY => (mU, mk x r)) pg_X11_parts 7 [.ref 279, .int a1, mU, mU, mU, mU, mU, mU] [] (mk x y) (f_X11_parts_L7 n a1 y k31) := by
  intro n
  induction n with
  | zero => intro a1 y; exact mS_none
  | succ n ih =>
    intro a1 y
    rw [f_X11_parts_L7]
    refine mS_steps (pc' := 14) (ls' := [.ref 279, .int a1, mU, mU, mU, mU, mU, mU]) (st' := [.int (400 : Int32), .int (y.1 279 10)]) (mem' := (mk x y)) 3 rfl ?_
    refine mS_ic4 rfl (fun _ => ?_) (fun _ => ?_)
    · exact mS_retv ⟨_, _, _, _, _, rfl⟩ rfl
    · refine mS_steps (pc' := 19) (ls' := [.ref 279, .int a1, mU, mU, mU, mU, mU, mU]) (st' := [.int a1, .ref 279]) (mem' := (mk x y)) 2 rfl ?_
      refine mS_bind (fun q2 hq2 => mS_call 68 2 [.ref 279, .int a1] [] rfl rfl rfl ⟨_, _, _, rfl, rfl⟩ (Nat.le_of_ble_eq_true rfl) (Nat.le_of_ble_eq_true rfl) hq2 (f_X11_byteAt_snd a1 y x) ?_)
      refine mS_steps (pc' := 28) (ls' := [.ref 279, .int a1, .int q2, mU, mU, mU, mU, mU]) (st' := [.int (y.1 279 4), .int a1]) (mem' := (mk x y)) 4 rfl ?_
      refine mS_ic2 rfl (fun _ => ?_) (fun _ => ?_)
      · refine mS_steps (pc' := 46) (ls' := [.ref 279, .int a1, .int q2, mU, mU, mU, mU, mU]) (st' := [.int (9 : Int32), .int q2]) (mem' := (mk x y)) 2 rfl ?_
        refine mS_ic0 rfl (fun _ => ?_) (fun _ => ?_)
        · refine mS_steps (pc' := 7) (ls' := [.ref 279, .int (a1 + (1 : Int32)), .int q2, mU, mU, mU, mU, mU]) (st' := []) (mem' := (mk x y)) 3 rfl ?_
          refine mS_forget [.ref 279, .int (a1 + (1 : Int32)), mU, mU, mU, mU, mU, mU] ⟨Or.inr rfl, Or.inr rfl, Or.inl rfl, Or.inl rfl, Or.inl rfl, Or.inl rfl, Or.inl rfl, Or.inl rfl, trivial⟩ ?_
          exact ih (a1 + (1 : Int32)) y
        · refine mS_steps (pc' := 52) (ls' := [.ref 279, .int a1, .int q2, mU, mU, mU, mU, mU]) (st' := [.int (10 : Int32), .int q2]) (mem' := (mk x y)) 2 rfl ?_
          refine mS_ic0 rfl (fun _ => ?_) (fun _ => ?_)
          · refine mS_steps (pc' := 7) (ls' := [.ref 279, .int (a1 + (1 : Int32)), .int q2, mU, mU, mU, mU, mU]) (st' := []) (mem' := (mk x y)) 3 rfl ?_
            refine mS_forget [.ref 279, .int (a1 + (1 : Int32)), mU, mU, mU, mU, mU, mU] ⟨Or.inr rfl, Or.inr rfl, Or.inl rfl, Or.inl rfl, Or.inl rfl, Or.inl rfl, Or.inl rfl, Or.inl rfl, trivial⟩ ?_
            exact ih (a1 + (1 : Int32)) y
          · refine mS_steps (pc' := 58) (ls' := [.ref 279, .int a1, .int q2, mU, mU, mU, mU, mU]) (st' := [.int (13 : Int32), .int q2]) (mem' := (mk x y)) 2 rfl ?_
            refine mS_ic0 rfl (fun _ => ?_) (fun _ => ?_)
            · refine mS_steps (pc' := 7) (ls' := [.ref 279, .int (a1 + (1 : Int32)), .int q2, mU, mU, mU, mU, mU]) (st' := []) (mem' := (mk x y)) 3 rfl ?_
              refine mS_forget [.ref 279, .int (a1 + (1 : Int32)), mU, mU, mU, mU, mU, mU] ⟨Or.inr rfl, Or.inr rfl, Or.inl rfl, Or.inl rfl, Or.inl rfl, Or.inl rfl, Or.inl rfl, Or.inl rfl, trivial⟩ ?_
              exact ih (a1 + (1 : Int32)) y
            · refine mS_steps (pc' := 64) (ls' := [.ref 279, .int a1, .int q2, mU, mU, mU, mU, mU]) (st' := [.int (32 : Int32), .int q2]) (mem' := (mk x y)) 2 rfl ?_
              refine mS_ic1 rfl (fun _ => ?_) (fun _ => ?_)
              · refine mS_steps (pc' := 7) (ls' := [.ref 279, .int (a1 + (1 : Int32)), .int q2, mU, mU, mU, mU, mU]) (st' := []) (mem' := (mk x y)) 3 rfl ?_
                refine mS_forget [.ref 279, .int (a1 + (1 : Int32)), mU, mU, mU, mU, mU, mU] ⟨Or.inr rfl, Or.inr rfl, Or.inl rfl, Or.inl rfl, Or.inl rfl, Or.inl rfl, Or.inl rfl, Or.inl rfl, trivial⟩ ?_
                exact ih (a1 + (1 : Int32)) y
              · refine mS_steps (pc' := 74) (ls' := [.ref 279, .int a1, .int q2, mU, mU, mU, mU, mU]) (st' := [.int q2]) (mem' := (mk x y)) 1 rfl ?_
                refine mS_call (q := (f_X11_isLetter q2)) 70 1 [.int q2] [] rfl rfl rfl ⟨_, _, _, rfl, rfl⟩ (Nat.le_of_ble_eq_true rfl) (Nat.le_of_ble_eq_true rfl) rfl (f_X11_isLetter_snd q2 (mk x y)) ?_
                refine mS_steps (pc' := 77) (ls' := [.ref 279, .int a1, .int q2, mU, mU, mU, mU, mU]) (st' := [.int (f_X11_isLetter q2)]) (mem' := (mk x y)) 0 rfl ?_
                refine mS_if0 rfl (fun _ => ?_) (fun _ => ?_)
                · refine mS_steps (pc' := 196) (ls' := [.ref 279, .int a1, .int q2, mU, mU, mU, mU, mU]) (st' := [.int q2]) (mem' := (mk x y)) 1 rfl ?_
                  refine mS_call (q := (f_X11_isDigit q2)) 71 1 [.int q2] [] rfl rfl rfl ⟨_, _, _, rfl, rfl⟩ (Nat.le_of_ble_eq_true rfl) (Nat.le_of_ble_eq_true rfl) rfl (f_X11_isDigit_snd q2 (mk x y)) ?_
                  refine mS_steps (pc' := 199) (ls' := [.ref 279, .int a1, .int q2, mU, mU, mU, mU, mU]) (st' := [.int (f_X11_isDigit q2)]) (mem' := (mk x y)) 0 rfl ?_
                  refine mS_if0 rfl (fun _ => ?_) (fun _ => ?_)
                  · refine mS_steps (pc' := 282) (ls' := [.ref 279, .int a1, .int q2, mU, mU, mU, mU, mU]) (st' := [.int (a1 + (1 : Int32)), .ref 279, .int q2, .int a1, .ref 279, .int a1]) (mem' := (mk x y)) 8 rfl ?_
                    refine mS_bind (fun q3 hq3 => mS_call 68 2 [.ref 279, .int (a1 + (1 : Int32))] [.int q2, .int a1, .ref 279, .int a1] rfl rfl rfl ⟨_, _, _, rfl, rfl⟩ (Nat.le_of_ble_eq_true rfl) (Nat.le_of_ble_eq_true rfl) hq3 (f_X11_byteAt_snd (a1 + (1 : Int32)) y x) ?_)
                    refine mS_steps (pc' := 285) (ls' := [.ref 279, .int a1, .int q2, mU, mU, mU, mU, mU]) (st' := [.int q3, .int q2, .int a1, .ref 279, .int a1]) (mem' := (mk x y)) 0 rfl ?_
                    refine mS_bind (fun q4 hq4 => mS_call 72 4 [.ref 279, .int a1, .int q2, .int q3] [.int a1] rfl rfl rfl ⟨_, _, _, rfl, rfl⟩ (Nat.le_of_ble_eq_true rfl) (Nat.le_of_ble_eq_true rfl) hq4 (f_X11_sign_snd a1 q2 q3 y x) ?_)
                    refine mS_steps (pc' := 7) (ls' := [.ref 279, .int (a1 + q4.1), .int q2, mU, mU, mU, mU, mU]) (st' := []) (mem' := (mk x q4.2)) 3 rfl ?_
                    refine mS_forget [.ref 279, .int (a1 + q4.1), mU, mU, mU, mU, mU, mU] ⟨Or.inr rfl, Or.inr rfl, Or.inl rfl, Or.inl rfl, Or.inl rfl, Or.inl rfl, Or.inl rfl, Or.inl rfl, trivial⟩ ?_
                    exact ih (a1 + q4.1) q4.2
                  · refine mS_steps (pc' := 207) (ls' := [.ref 279, .int a1, .int q2, .int (0 : Int32), .int (0 : Int32), mU, mU, mU]) (st' := []) (mem' := (mk x y)) 4 rfl ?_
                    refine mS_forget [.ref 279, .int a1, mU, .int (0 : Int32), .int (0 : Int32), mU, mU, mU] ⟨Or.inr rfl, Or.inr rfl, Or.inl rfl, Or.inr rfl, Or.inr rfl, Or.inl rfl, Or.inl rfl, Or.inl rfl, trivial⟩ ?_
                    refine f_X11_parts_L207_snd a1 y x _ ?_ mF (0 : Int32) (0 : Int32)
                    · intro v7 v8
                      refine mS_steps (pc' := 252) (ls' := [.ref 279, .int a1, mU, .int v7, .int v8, mU, mU, mU]) (st' := [.int (4 : Int32), .int v7, .ref 279]) (mem' := (mk x y)) 3 rfl ?_
                      refine mS_jn (fun j => ∀ z : Int32, mS fm L xs (fun r : mY => (mU, mk x r)) pg_X11_parts 260 [.ref 279, .int a1, mU, .int v7, .int v8, mU, mU, mU] [.int z, .ref 279] (mk x y) (j z)) ?_ ?_
                      · intro z
                        revert z; intro w10
                        refine mS_steps (pc' := 264) (ls' := [.ref 279, .int a1, mU, .int v7, .int v8, mU, mU, mU]) (st' := [.long (0 : Int64), .int v8, .int a1, .int w10, .ref 279]) (mem' := (mk x y)) 3 rfl ?_
                        refine mS_bind (fun q11 hq11 => mS_call 69 5 [.ref 279, .int w10, .int a1, .int v8, .long (0 : Int64)] [] rfl rfl rfl ⟨_, _, _, rfl, rfl⟩ (Nat.le_of_ble_eq_true rfl) (Nat.le_of_ble_eq_true rfl) hq11 (f_X11_token_snd w10 a1 v8 (0 : Int64) y x) ?_)
                        refine mS_steps (pc' := 7) (ls' := [.ref 279, .int (a1 + v7), mU, .int v7, .int v8, mU, mU, mU]) (st' := []) (mem' := (mk x q11)) 6 rfl ?_
                        refine mS_forget [.ref 279, .int (a1 + v7), mU, mU, mU, mU, mU, mU] ⟨Or.inr rfl, Or.inr rfl, Or.inl rfl, Or.inl rfl, Or.inl rfl, Or.inl rfl, Or.inl rfl, Or.inl rfl, trivial⟩ ?_
                        exact ih (a1 + v7) q11
                      intro j9 hj9
                      refine mS_ic5 rfl (fun _ => ?_) (fun _ => ?_)
                      · refine mS_steps (pc' := 260) (ls' := [.ref 279, .int a1, mU, .int v7, .int v8, mU, mU, mU]) (st' := [.int (2 : Int32), .ref 279]) (mem' := (mk x y)) 1 rfl ?_
                        exact hj9 (2 : Int32)
                      · refine mS_steps (pc' := 260) (ls' := [.ref 279, .int a1, mU, .int v7, .int v8, mU, mU, mU]) (st' := [.int (3 : Int32), .ref 279]) (mem' := (mk x y)) 2 rfl ?_
                        exact hj9 (3 : Int32)
                · refine mS_steps (pc' := 85) (ls' := [.ref 279, .int a1, .int q2, .int (0 : Int32), .long (0 : Int64), mU, mU, mU]) (st' := []) (mem' := (mk x y)) 4 rfl ?_
                  refine mS_forget [.ref 279, .int a1, mU, .int (0 : Int32), .long (0 : Int64), mU, mU, mU] ⟨Or.inr rfl, Or.inr rfl, Or.inl rfl, Or.inr rfl, Or.inr rfl, Or.inl rfl, Or.inl rfl, Or.inl rfl, trivial⟩ ?_
                  refine f_X11_parts_L85_snd a1 y x _ ?_ mF (0 : Int32) (0 : Int64)
                  · intro v15 v16
                    refine mS_steps (pc' := 127) (ls' := [.ref 279, .int a1, mU, .int v15, .long v16, mU, mU, mU]) (st' := [.int (8 : Int32), .int v15]) (mem' := (mk x y)) 2 rfl ?_
                    refine mS_jn (fun j => ∀ z : Int32, mS fm L xs (fun r : mY => (mU, mk x r)) pg_X11_parts 135 [.ref 279, .int a1, mU, .int v15, .long v16, mU, mU, mU] [.int z] (mk x y) (j z)) ?_ ?_
                    · intro z
                      revert z; intro w18
                      refine mS_steps (pc' := 140) (ls' := [.ref 279, .int a1, mU, .int v15, .long v16, mU, .int w18, mU]) (st' := [.int (8 : Int32), .int v15]) (mem' := (mk x y)) 3 rfl ?_
                      refine mS_jn (fun j => ∀ z : Int32, mS fm L xs (fun r : mY => (mU, mk x r)) pg_X11_parts 178 [.ref 279, .int a1, mU, .int v15, .long v16, mU, .int z, mU] [] (mk x y) (j z)) ?_ ?_
                      · intro z
                        revert z; intro v20
                        refine mS_steps (pc' := 185) (ls' := [.ref 279, .int a1, mU, .int v15, .long v16, mU, .int v20, mU]) (st' := [.long v16, .int (0 : Int32), .int a1, .int v20, .ref 279]) (mem' := (mk x y)) 5 rfl ?_
                        refine mS_bind (fun q21 hq21 => mS_call 69 5 [.ref 279, .int v20, .int a1, .int (0 : Int32), .long v16] [] rfl rfl rfl ⟨_, _, _, rfl, rfl⟩ (Nat.le_of_ble_eq_true rfl) (Nat.le_of_ble_eq_true rfl) hq21 (f_X11_token_snd v20 a1 (0 : Int32) v16 y x) ?_)
                        refine mS_steps (pc' := 7) (ls' := [.ref 279, .int (a1 + v15), mU, .int v15, .long v16, mU, .int v20, mU]) (st' := []) (mem' := (mk x q21)) 6 rfl ?_
                        refine mS_forget [.ref 279, .int (a1 + v15), mU, mU, mU, mU, mU, mU] ⟨Or.inr rfl, Or.inr rfl, Or.inl rfl, Or.inl rfl, Or.inl rfl, Or.inl rfl, Or.inl rfl, Or.inl rfl, trivial⟩ ?_
                        exact ih (a1 + v15) q21
                      intro j19 hj19
                      refine mS_ic4 rfl (fun _ => ?_) (fun _ => ?_)
                      · exact hj19 w18
                      · refine mS_steps (pc' := 146) (ls' := [.ref 279, .int a1, mU, .int v15, .long v16, mU, .int w18, .int (0 : Int32)]) (st' := []) (mem' := (mk x y)) 2 rfl ?_
                        refine f_X11_parts_L146_snd a1 v15 v16 y x _ ?_ mF w18 (0 : Int32)
                        · intro v22
                          exact hj19 v22
                    intro j17 hj17
                    refine mS_ic5 rfl (fun _ => ?_) (fun _ => ?_)
                    · refine mS_steps (pc' := 135) (ls' := [.ref 279, .int a1, mU, .int v15, .long v16, mU, mU, mU]) (st' := [.int (1 : Int32)]) (mem' := (mk x y)) 1 rfl ?_
                      exact hj17 (1 : Int32)
                    · refine mS_steps (pc' := 135) (ls' := [.ref 279, .int a1, mU, .int v15, .long v16, mU, mU, mU]) (st' := [.int (3 : Int32)]) (mem' := (mk x y)) 2 rfl ?_
                      exact hj17 (3 : Int32)
      · refine mS_forget [.ref 279, mU, mU, mU, mU, mU, mU, mU] ⟨Or.inr rfl, Or.inl rfl, Or.inl rfl, Or.inl rfl, Or.inl rfl, Or.inl rfl, Or.inl rfl, Or.inl rfl, trivial⟩ ?_
        exact hk31 y
set_option maxRecDepth 20000 in
set_option maxHeartbeats 2000000 in
theorem f_X11_parts_snd {fm : Value} {L : Nat} {xs : Nat → Int32} (y : mY) (x : mX) : mS fm L xs (fun r : mY => (mU, mk x r)) pg_X11_parts 0 (m_entry [.ref 279] 8) [] (mk x y) ((f_X11_parts y)) := by
  unfold f_X11_parts
  refine mS_steps (pc' := 0) (ls' := [.ref 279, mU, mU, mU, mU, mU, mU, mU]) (st' := []) (mem' := (mk x y)) 0 rfl ?_
  refine mS_steps (pc' := 2) (ls' := [.ref 279, mU, mU, mU, mU, mU, mU, mU]) (st' := [.int (0 : Int32), .ref 279]) (mem' := (mk x y)) 2 rfl ?_
  refine mS_puty rfl rfl (by decide) rfl ?_
  refine mS_lety (fun y1 => ?_)
  refine mS_steps (pc' := 7) (ls' := [.ref 279, .int (0 : Int32), mU, mU, mU, mU, mU, mU]) (st' := []) (mem' := (mk x y1)) 2 rfl ?_
  refine f_X11_parts_L7_snd x _ ?_ mF (0 : Int32) y1
  · intro y23
    refine mS_steps (pc' := 39) (ls' := [.ref 279, mU, mU, mU, mU, mU, mU, mU]) (st' := [.long (0 : Int64), .int (0 : Int32), .int (y23.1 279 4), .int (0 : Int32), .ref 279]) (mem' := (mk x y23)) 6 rfl ?_
    refine mS_bind (fun q24 hq24 => mS_call 69 5 [.ref 279, .int (0 : Int32), .int (y23.1 279 4), .int (0 : Int32), .long (0 : Int64)] [] rfl rfl rfl ⟨_, _, _, rfl, rfl⟩ (Nat.le_of_ble_eq_true rfl) (Nat.le_of_ble_eq_true rfl) hq24 (f_X11_token_snd (0 : Int32) (y23.1 279 4) (0 : Int32) (0 : Int64) y23 x) ?_)
    refine mS_steps (pc' := 42) (ls' := [.ref 279, mU, mU, mU, mU, mU, mU, mU]) (st' := []) (mem' := (mk x q24)) 0 rfl ?_
    exact mS_retv ⟨_, _, _, _, _, rfl⟩ rfl
