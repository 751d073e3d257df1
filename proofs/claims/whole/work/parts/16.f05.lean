/-! ===== methods as functions (written by wip/whole/gen/emitall.py) ===== -/
def f_X10_order (p1 : Int32) (p2 : Int32) (p3 : Int32) (x : mX) : Option (Int32 × mX) := ((f_X10_hasWay p1 p2 x).bind fun q1 => (if q1.1 = 0 then (some ((-1 : Int32), q1.2)) else ((f_X7_ownOf p1 p2 q1.2).bind fun q2 => ((f_X7_headOf p1 p2 q1.2).bind fun q3 => ((f_X7_arrange q2 q3 q1.2).bind fun q4 => (if p3 = (-1 : Int32) then (some ((q4.1 234 0), q4)) else (if p3 < 0 then (some ((-1 : Int32), q4)) else (if (q4.1 234 0) ≤ p3 then (some ((-1 : Int32), q4)) else (if m_in p3 8 = true then (some ((q4.1 235 p3.toNatClampNeg), q4)) else none)))))))))
set_option maxRecDepth 20000 in
set_option maxHeartbeats 2000000 in
theorem f_X10_order_snd {fm : Value} {L : Nat} {xs : Nat → Int32} (p1 : Int32) (p2 : Int32) (p3 : Int32) (x : mX) (y : mY) : mS fm L xs (fun r : (Int32 × mX) => (.int r.1, mk r.2 y)) pg_X10_order 0 (m_entry [.ref 0, .int p1, .int p2, .int p3] 4) [] (mk x y) ((f_X10_order p1 p2 p3 x)) := by
  unfold f_X10_order
  refine mS_steps (pc' := 0) (ls' := [.ref 0, .int p1, .int p2, .int p3]) (st' := []) (mem' := (mk x y)) 0 rfl ?_
  refine mS_steps (pc' := 3) (ls' := [.ref 0, .int p1, .int p2, .int p3]) (st' := [.int p2, .int p1, .ref 0]) (mem' := (mk x y)) 3 rfl ?_
  refine mS_bind (fun q1 hq1 => mS_call 186 3 [.ref 0, .int p1, .int p2] [] rfl rfl rfl ⟨_, _, _, rfl, rfl⟩ (Nat.le_of_ble_eq_true rfl) (Nat.le_of_ble_eq_true rfl) hq1 (f_X10_hasWay_snd p1 p2 x y) ?_)
  refine mS_steps (pc' := 6) (ls' := [.ref 0, .int p1, .int p2, .int p3]) (st' := [.int q1.1]) (mem' := (mk q1.2 y)) 0 rfl ?_
  refine mS_if1 rfl (fun _ => ?_) (fun _ => ?_)
  · refine mS_steps (pc' := 10) (ls' := [.ref 0, .int p1, .int p2, .int p3]) (st' := [.int (-1 : Int32)]) (mem' := (mk q1.2 y)) 1 rfl ?_
    exact mS_reti ⟨_, _, _, _, _, rfl, rfl⟩ rfl
  · refine mS_steps (pc' := 25) (ls' := [.ref 0, .int p1, .int p2, .int p3]) (st' := [.int p2, .int p1, .ref 234, .ref 228, .ref 234]) (mem' := (mk q1.2 y)) 8 rfl ?_
    refine mS_bind (fun q2 hq2 => mS_call 123 3 [.ref 234, .int p1, .int p2] [.ref 228, .ref 234] rfl rfl rfl ⟨_, _, _, rfl, rfl⟩ (Nat.le_of_ble_eq_true rfl) (Nat.le_of_ble_eq_true rfl) hq2 (f_X7_ownOf_snd p1 p2 q1.2 y) ?_)
    refine mS_steps (pc' := 34) (ls' := [.ref 0, .int p1, .int p2, .int p3]) (st' := [.int p2, .int p1, .ref 234, .int q2, .ref 228, .ref 234]) (mem' := (mk q1.2 y)) 4 rfl ?_
    refine mS_bind (fun q3 hq3 => mS_call 187 3 [.ref 234, .int p1, .int p2] [.int q2, .ref 228, .ref 234] rfl rfl rfl ⟨_, _, _, rfl, rfl⟩ (Nat.le_of_ble_eq_true rfl) (Nat.le_of_ble_eq_true rfl) hq3 (f_X7_headOf_snd p1 p2 q1.2 y) ?_)
    refine mS_steps (pc' := 37) (ls' := [.ref 0, .int p1, .int p2, .int p3]) (st' := [.int q3, .int q2, .ref 228, .ref 234]) (mem' := (mk q1.2 y)) 0 rfl ?_
    refine mS_bind (fun q4 hq4 => mS_call 130 4 [.ref 234, .ref 228, .int q2, .int q3] [] rfl rfl rfl ⟨_, _, _, rfl, rfl⟩ (Nat.le_of_ble_eq_true rfl) (Nat.le_of_ble_eq_true rfl) hq4 (f_X7_arrange_snd q2 q3 q1.2 y) ?_)
    refine mS_steps (pc' := 42) (ls' := [.ref 0, .int p1, .int p2, .int p3]) (st' := [.int (-1 : Int32), .int p3]) (mem' := (mk q4 y)) 2 rfl ?_
    refine mS_ic1 rfl (fun _ => ?_) (fun _ => ?_)
    · refine mS_steps (pc' := 52) (ls' := [.ref 0, .int p1, .int p2, .int p3]) (st' := [.int (q4.1 234 0)]) (mem' := (mk q4 y)) 3 rfl ?_
      exact mS_reti ⟨_, _, _, _, _, rfl, rfl⟩ rfl
    · refine mS_steps (pc' := 54) (ls' := [.ref 0, .int p1, .int p2, .int p3]) (st' := [.int p3]) (mem' := (mk q4 y)) 1 rfl ?_
      refine mS_if2 rfl (fun _ => ?_) (fun _ => ?_)
      · refine mS_steps (pc' := 81) (ls' := [.ref 0, .int p1, .int p2, .int p3]) (st' := [.int (-1 : Int32)]) (mem' := (mk q4 y)) 1 rfl ?_
        exact mS_reti ⟨_, _, _, _, _, rfl, rfl⟩ rfl
      · refine mS_steps (pc' := 65) (ls' := [.ref 0, .int p1, .int p2, .int p3]) (st' := [.int (q4.1 234 0), .int p3]) (mem' := (mk q4 y)) 4 rfl ?_
        refine mS_ic3 rfl (fun _ => ?_) (fun _ => ?_)
        · refine mS_steps (pc' := 81) (ls' := [.ref 0, .int p1, .int p2, .int p3]) (st' := [.int (-1 : Int32)]) (mem' := (mk q4 y)) 1 rfl ?_
          exact mS_reti ⟨_, _, _, _, _, rfl, rfl⟩ rfl
        · refine mS_steps (pc' := 76) (ls' := [.ref 0, .int p1, .int p2, .int p3]) (st' := [.int p3, .ref 235]) (mem' := (mk q4 y)) 4 rfl ?_
          refine mS_ald (b := 0) (n := 8) (z := (q4.1 235 p3.toNatClampNeg)) rfl (by decide) rfl (by decide) rfl (fun _ => ?_)
          refine mS_steps (pc' := 81) (ls' := [.ref 0, .int p1, .int p2, .int p3]) (st' := [.int (q4.1 235 p3.toNatClampNeg)]) (mem' := (mk q4 y)) 1 rfl ?_
          exact mS_reti ⟨_, _, _, _, _, rfl, rfl⟩ rfl
def f_X11_order (p1 : Int32) (p2 : Int32) (p3 : Int32) (y : mY) : Option (Int32 × mY) := ((f_X11_placeOf p1 p2 y).bind fun q1 => (if 0 ≤ q1.1 then (if m_in q1.1 64 = true then ((f_X11_bitsOf (q1.2.1 296 q1.1.toNatClampNeg)).bind fun q2 => (if p3 = (-1 : Int32) then (some (q2, q1.2)) else (if (f_X11_in p3 (0 : Int32) (q2 - (1 : Int32))) = 0 then (some ((-1 : Int32), q1.2)) else (if m_in (((8 : Int32) * q1.1) + p3) 512 = true then (some ((q1.2.1 299 (((8 : Int32) * q1.1) + p3).toNatClampNeg), q1.2)) else none)))) else none) else (some ((-1 : Int32), q1.2))))
set_option maxRecDepth 20000 in
set_option maxHeartbeats 2000000 in
theorem f_X11_order_snd {fm : Value} {L : Nat} {xs : Nat → Int32} (p1 : Int32) (p2 : Int32) (p3 : Int32) (y : mY) (x : mX) : mS fm L xs (fun r : (Int32 × mY) => (.int r.1, mk x r.2)) pg_X11_order 0 (m_entry [.ref 279, .int p1, .int p2, .int p3] 6) [] (mk x y) ((f_X11_order p1 p2 p3 y)) := by
  unfold f_X11_order
  refine mS_steps (pc' := 0) (ls' := [.ref 279, .int p1, .int p2, .int p3, mU, mU]) (st' := []) (mem' := (mk x y)) 0 rfl ?_
  refine mS_steps (pc' := 3) (ls' := [.ref 279, .int p1, .int p2, .int p3, mU, mU]) (st' := [.int p2, .int p1, .ref 279]) (mem' := (mk x y)) 3 rfl ?_
  refine mS_bind (fun q1 hq1 => mS_call 189 3 [.ref 279, .int p1, .int p2] [] rfl rfl rfl ⟨_, _, _, rfl, rfl⟩ (Nat.le_of_ble_eq_true rfl) (Nat.le_of_ble_eq_true rfl) hq1 (f_X11_placeOf_snd p1 p2 y x) ?_)
  refine mS_steps (pc' := 10) (ls' := [.ref 279, .int p1, .int p2, .int p3, .int q1.1, mU]) (st' := [.int q1.1]) (mem' := (mk x q1.2)) 2 rfl ?_
  refine mS_if3 rfl (fun _ => ?_) (fun _ => ?_)
  · refine mS_steps (pc' := 21) (ls' := [.ref 279, .int p1, .int p2, .int p3, .int q1.1, mU]) (st' := [.int q1.1, .ref 296]) (mem' := (mk x q1.2)) 3 rfl ?_
    refine mS_ald (b := 0) (n := 64) (z := (q1.2.1 296 q1.1.toNatClampNeg)) rfl (by decide) rfl (by decide) rfl (fun _ => ?_)
    refine mS_bind (fun q2 hq2 => mS_call 144 1 [.int (q1.2.1 296 q1.1.toNatClampNeg)] [] rfl rfl rfl ⟨_, _, _, rfl, rfl⟩ (Nat.le_of_ble_eq_true rfl) (Nat.le_of_ble_eq_true rfl) hq2 (f_X11_bitsOf_snd (q1.2.1 296 q1.1.toNatClampNeg) (mk x q1.2)) ?_)
    refine mS_steps (pc' := 29) (ls' := [.ref 279, .int p1, .int p2, .int p3, .int q1.1, .int q2]) (st' := [.int (-1 : Int32), .int p3]) (mem' := (mk x q1.2)) 3 rfl ?_
    refine mS_ic1 rfl (fun _ => ?_) (fun _ => ?_)
    · refine mS_steps (pc' := 65) (ls' := [.ref 279, .int p1, .int p2, .int p3, .int q1.1, .int q2]) (st' := [.int q2]) (mem' := (mk x q1.2)) 2 rfl ?_
      exact mS_reti ⟨_, _, _, _, _, rfl, rfl⟩ rfl
    · refine mS_steps (pc' := 43) (ls' := [.ref 279, .int p1, .int p2, .int p3, .int q1.1, .int q2]) (st' := [.int (q2 - (1 : Int32)), .int (0 : Int32), .int p3]) (mem' := (mk x q1.2)) 5 rfl ?_
      refine mS_call (q := (f_X11_in p3 (0 : Int32) (q2 - (1 : Int32)))) 83 3 [.int p3, .int (0 : Int32), .int (q2 - (1 : Int32))] [] rfl rfl rfl ⟨_, _, _, rfl, rfl⟩ (Nat.le_of_ble_eq_true rfl) (Nat.le_of_ble_eq_true rfl) rfl (f_X11_in_snd p3 (0 : Int32) (q2 - (1 : Int32)) (mk x q1.2)) ?_
      refine mS_steps (pc' := 46) (ls' := [.ref 279, .int p1, .int p2, .int p3, .int q1.1, .int q2]) (st' := [.int (f_X11_in p3 (0 : Int32) (q2 - (1 : Int32)))]) (mem' := (mk x q1.2)) 0 rfl ?_
      refine mS_if0 rfl (fun _ => ?_) (fun _ => ?_)
      · refine mS_steps (pc' := 65) (ls' := [.ref 279, .int p1, .int p2, .int p3, .int q1.1, .int q2]) (st' := [.int (-1 : Int32)]) (mem' := (mk x q1.2)) 1 rfl ?_
        exact mS_reti ⟨_, _, _, _, _, rfl, rfl⟩ rfl
      · refine mS_steps (pc' := 60) (ls' := [.ref 279, .int p1, .int p2, .int p3, .int q1.1, .int q2]) (st' := [.int (((8 : Int32) * q1.1) + p3), .ref 299]) (mem' := (mk x q1.2)) 7 rfl ?_
        refine mS_ald (b := 0) (n := 512) (z := (q1.2.1 299 (((8 : Int32) * q1.1) + p3).toNatClampNeg)) rfl (by decide) rfl (by decide) rfl (fun _ => ?_)
        refine mS_steps (pc' := 65) (ls' := [.ref 279, .int p1, .int p2, .int p3, .int q1.1, .int q2]) (st' := [.int (q1.2.1 299 (((8 : Int32) * q1.1) + p3).toNatClampNeg)]) (mem' := (mk x q1.2)) 1 rfl ?_
        exact mS_reti ⟨_, _, _, _, _, rfl, rfl⟩ rfl
  · refine mS_steps (pc' := 14) (ls' := [.ref 279, .int p1, .int p2, .int p3, .int q1.1, mU]) (st' := [.int (-1 : Int32)]) (mem' := (mk x q1.2)) 1 rfl ?_
    exact mS_reti ⟨_, _, _, _, _, rfl, rfl⟩ rfl
def f_X10_isColour (p0 : Int32) : Int32 := (if p0 = 0 then (1 : Int32) else (if p0 = (1 : Int32) then (1 : Int32) else (0 : Int32)))
set_option maxRecDepth 20000 in
set_option maxHeartbeats 2000000 in
theorem f_X10_isColour_snd {fm : Value} {L : Nat} {xs : Nat → Int32} (p0 : Int32) (mem : mM) : mS fm L xs (fun r : Int32 => (.int r, mem)) pg_X10_isColour 0 (m_entry [.int p0] 1) [] mem (some (f_X10_isColour p0)) := by
  unfold f_X10_isColour
  refine mS_steps (pc' := 0) (ls' := [.int p0]) (st' := []) (mem' := mem) 0 rfl ?_
  refine mS_steps (pc' := 1) (ls' := [.int p0]) (st' := [.int p0]) (mem' := mem) 1 rfl ?_
  refine mS_if0T rfl (fun _ => ?_) (fun _ => ?_)
  · refine mS_steps (pc' := 14) (ls' := [.int p0]) (st' := [.int (1 : Int32)]) (mem' := mem) 2 rfl ?_
    exact mS_reti ⟨_, _, _, _, _, rfl, (by decide)⟩ rfl
  · refine mS_steps (pc' := 6) (ls' := [.int p0]) (st' := [.int (1 : Int32), .int p0]) (mem' := mem) 2 rfl ?_
    refine mS_ic1T rfl (fun _ => ?_) (fun _ => ?_)
    · refine mS_steps (pc' := 14) (ls' := [.int p0]) (st' := [.int (1 : Int32)]) (mem' := mem) 2 rfl ?_
      exact mS_reti ⟨_, _, _, _, _, rfl, (by decide)⟩ rfl
    · refine mS_steps (pc' := 14) (ls' := [.int p0]) (st' := [.int (0 : Int32)]) (mem' := mem) 1 rfl ?_
      exact mS_reti ⟨_, _, _, _, _, rfl, (by decide)⟩ rfl
def f_X10_hop (p1 : Int32) (p2 : Int32) (p3 : Int32) (x : mX) : Option (Int32 × mX) := (if (f_X10_isColour p3) = 0 then (some ((-1 : Int32), x)) else ((f_X10_hasWay p1 p2 x).bind fun q1 => (if q1.1 = 0 then (some ((-1 : Int32), q1.2)) else ((f_X7_next p1 p2 p3 q1.2).bind fun q2 => (some (q2, q1.2))))))
set_option maxRecDepth 20000 in
set_option maxHeartbeats 2000000 in
theorem f_X10_hop_snd {fm : Value} {L : Nat} {xs : Nat → Int32} (p1 : Int32) (p2 : Int32) (p3 : Int32) (x : mX) (y : mY) : mS fm L xs (fun r : (Int32 × mX) => (.int r.1, mk r.2 y)) pg_X10_hop 0 (m_entry [.ref 0, .int p1, .int p2, .int p3] 4) [] (mk x y) ((f_X10_hop p1 p2 p3 x)) := by
  unfold f_X10_hop
  refine mS_steps (pc' := 0) (ls' := [.ref 0, .int p1, .int p2, .int p3]) (st' := []) (mem' := (mk x y)) 0 rfl ?_
  refine mS_steps (pc' := 1) (ls' := [.ref 0, .int p1, .int p2, .int p3]) (st' := [.int p3]) (mem' := (mk x y)) 1 rfl ?_
  refine mS_call (q := (f_X10_isColour p3)) 195 1 [.int p3] [] rfl rfl rfl ⟨_, _, _, rfl, rfl⟩ (Nat.le_of_ble_eq_true rfl) (Nat.le_of_ble_eq_true rfl) rfl (f_X10_isColour_snd p3 (mk x y)) ?_
  refine mS_steps (pc' := 4) (ls' := [.ref 0, .int p1, .int p2, .int p3]) (st' := [.int (f_X10_isColour p3)]) (mem' := (mk x y)) 0 rfl ?_
  refine mS_if0 rfl (fun _ => ?_) (fun _ => ?_)
  · refine mS_steps (pc' := 30) (ls' := [.ref 0, .int p1, .int p2, .int p3]) (st' := [.int (-1 : Int32)]) (mem' := (mk x y)) 1 rfl ?_
    exact mS_reti ⟨_, _, _, _, _, rfl, rfl⟩ rfl
  · refine mS_steps (pc' := 10) (ls' := [.ref 0, .int p1, .int p2, .int p3]) (st' := [.int p2, .int p1, .ref 0]) (mem' := (mk x y)) 3 rfl ?_
    refine mS_bind (fun q1 hq1 => mS_call 186 3 [.ref 0, .int p1, .int p2] [] rfl rfl rfl ⟨_, _, _, rfl, rfl⟩ (Nat.le_of_ble_eq_true rfl) (Nat.le_of_ble_eq_true rfl) hq1 (f_X10_hasWay_snd p1 p2 x y) ?_)
    refine mS_steps (pc' := 13) (ls' := [.ref 0, .int p1, .int p2, .int p3]) (st' := [.int q1.1]) (mem' := (mk q1.2 y)) 0 rfl ?_
    refine mS_if0 rfl (fun _ => ?_) (fun _ => ?_)
    · refine mS_steps (pc' := 30) (ls' := [.ref 0, .int p1, .int p2, .int p3]) (st' := [.int (-1 : Int32)]) (mem' := (mk q1.2 y)) 1 rfl ?_
      exact mS_reti ⟨_, _, _, _, _, rfl, rfl⟩ rfl
    · refine mS_steps (pc' := 23) (ls' := [.ref 0, .int p1, .int p2, .int p3]) (st' := [.int p3, .int p2, .int p1, .ref 234]) (mem' := (mk q1.2 y)) 5 rfl ?_
      refine mS_bind (fun q2 hq2 => mS_call 137 4 [.ref 234, .int p1, .int p2, .int p3] [] rfl rfl rfl ⟨_, _, _, rfl, rfl⟩ (Nat.le_of_ble_eq_true rfl) (Nat.le_of_ble_eq_true rfl) hq2 (f_X7_next_snd p1 p2 p3 q1.2 y) ?_)
      refine mS_steps (pc' := 30) (ls' := [.ref 0, .int p1, .int p2, .int p3]) (st' := [.int q2]) (mem' := (mk q1.2 y)) 1 rfl ?_
      exact mS_reti ⟨_, _, _, _, _, rfl, rfl⟩ rfl
def f_X11_hop (p1 : Int32) (p2 : Int32) (p3 : Int32) (y : mY) : Option (Int32 × mY) := ((f_X11_placeOf p1 p2 y).bind fun q1 => (if q1.1 < 0 then (some ((-1 : Int32), q1.2)) else (if (f_X11_in p3 (0 : Int32) (1 : Int32)) = 0 then (some ((-1 : Int32), q1.2)) else ((f_X11_hopOf p1 p2 p3 q1.2).bind fun q2 => (some (q2, q1.2))))))
set_option maxRecDepth 20000 in
set_option maxHeartbeats 2000000 in
theorem f_X11_hop_snd {fm : Value} {L : Nat} {xs : Nat → Int32} (p1 : Int32) (p2 : Int32) (p3 : Int32) (y : mY) (x : mX) : mS fm L xs (fun r : (Int32 × mY) => (.int r.1, mk x r.2)) pg_X11_hop 0 (m_entry [.ref 279, .int p1, .int p2, .int p3] 4) [] (mk x y) ((f_X11_hop p1 p2 p3 y)) := by
  unfold f_X11_hop
  refine mS_steps (pc' := 0) (ls' := [.ref 279, .int p1, .int p2, .int p3]) (st' := []) (mem' := (mk x y)) 0 rfl ?_
  refine mS_steps (pc' := 3) (ls' := [.ref 279, .int p1, .int p2, .int p3]) (st' := [.int p2, .int p1, .ref 279]) (mem' := (mk x y)) 3 rfl ?_
  refine mS_bind (fun q1 hq1 => mS_call 189 3 [.ref 279, .int p1, .int p2] [] rfl rfl rfl ⟨_, _, _, rfl, rfl⟩ (Nat.le_of_ble_eq_true rfl) (Nat.le_of_ble_eq_true rfl) hq1 (f_X11_placeOf_snd p1 p2 y x) ?_)
  refine mS_steps (pc' := 6) (ls' := [.ref 279, .int p1, .int p2, .int p3]) (st' := [.int q1.1]) (mem' := (mk x q1.2)) 0 rfl ?_
  refine mS_if2 rfl (fun _ => ?_) (fun _ => ?_)
  · refine mS_steps (pc' := 29) (ls' := [.ref 279, .int p1, .int p2, .int p3]) (st' := [.int (-1 : Int32)]) (mem' := (mk x q1.2)) 2 rfl ?_
    exact mS_reti ⟨_, _, _, _, _, rfl, rfl⟩ rfl
  · refine mS_steps (pc' := 12) (ls' := [.ref 279, .int p1, .int p2, .int p3]) (st' := [.int (1 : Int32), .int (0 : Int32), .int p3]) (mem' := (mk x q1.2)) 3 rfl ?_
    refine mS_call (q := (f_X11_in p3 (0 : Int32) (1 : Int32))) 83 3 [.int p3, .int (0 : Int32), .int (1 : Int32)] [] rfl rfl rfl ⟨_, _, _, rfl, rfl⟩ (Nat.le_of_ble_eq_true rfl) (Nat.le_of_ble_eq_true rfl) rfl (f_X11_in_snd p3 (0 : Int32) (1 : Int32) (mk x q1.2)) ?_
    refine mS_steps (pc' := 15) (ls' := [.ref 279, .int p1, .int p2, .int p3]) (st' := [.int (f_X11_in p3 (0 : Int32) (1 : Int32))]) (mem' := (mk x q1.2)) 0 rfl ?_
    refine mS_if1 rfl (fun _ => ?_) (fun _ => ?_)
    · refine mS_steps (pc' := 29) (ls' := [.ref 279, .int p1, .int p2, .int p3]) (st' := [.int (-1 : Int32)]) (mem' := (mk x q1.2)) 2 rfl ?_
      exact mS_reti ⟨_, _, _, _, _, rfl, rfl⟩ rfl
    · refine mS_steps (pc' := 26) (ls' := [.ref 279, .int p1, .int p2, .int p3]) (st' := [.int p3, .int p2, .int p1, .ref 279]) (mem' := (mk x q1.2)) 4 rfl ?_
      refine mS_bind (fun q2 hq2 => mS_call 157 4 [.ref 279, .int p1, .int p2, .int p3] [] rfl rfl rfl ⟨_, _, _, rfl, rfl⟩ (Nat.le_of_ble_eq_true rfl) (Nat.le_of_ble_eq_true rfl) hq2 (f_X11_hopOf_snd p1 p2 p3 q1.2 x) ?_)
      refine mS_steps (pc' := 29) (ls' := [.ref 279, .int p1, .int p2, .int p3]) (st' := [.int q2]) (mem' := (mk x q1.2)) 0 rfl ?_
      exact mS_reti ⟨_, _, _, _, _, rfl, rfl⟩ rfl
def f_X7_along_L9 (a1 : Int32) (a3 : Int32) (a4 : Int32) : Nat → Int32 → Int32 → Int32 → mX → Option Int32
  | 0, _, _, _, _ => none
  | n + 1, a5, a6, a7, x => (if (8 : Int32) ≤ a7 then (if a4 = (-1 : Int32) then (some a6) else (some (-1 : Int32))) else (if a5 = a1 then (if a4 = (-1 : Int32) then (some a6) else (some (-1 : Int32))) else (if a5 = (-1 : Int32) then (if a4 = (-1 : Int32) then (some a6) else (some (-1 : Int32))) else ((f_X7_next a1 a5 a3 x).bind fun q1 => (if a6 = a4 then (some q1) else (f_X7_along_L9 a1 a3 a4 n q1 (a6 + (1 : Int32)) (a7 + (1 : Int32)) x))))))
def f_X7_along (p1 : Int32) (p2 : Int32) (p3 : Int32) (p4 : Int32) (x : mX) : Option Int32 := (f_X7_along_L9 p1 p3 p4 mF p2 (0 : Int32) (0 : Int32) x)
set_option maxRecDepth 20000 in
set_option maxHeartbeats 2000000 in
theorem f_X7_along_L9_snd {fm : Value} {L : Nat} {xs : Nat → Int32} (a1 : Int32) (a3 : Int32) (a4 : Int32) (x : mX) (y : mY) : ∀ (n : Nat) (a5 : Int32) (a6 : Int32) (a7 : Int32), mS fm L xs (fun r : Int32 => (.int r, (mk x y))) pg_X7_along 9 [.ref 234, .int a1, mU, .int a3, .int a4, .int a5, .int a6, .int a7] [] (mk x y) (f_X7_along_L9 a1 a3 a4 n a5 a6 a7 x) := by
  intro n
  induction n with
  | zero => intro a5 a6 a7; exact mS_none
  | succ n ih =>
    intro a5 a6 a7
    rw [f_X7_along_L9]
    refine mS_steps (pc' := 13) (ls' := [.ref 234, .int a1, mU, .int a3, .int a4, .int a5, .int a6, .int a7]) (st' := [.int (8 : Int32), .int a7]) (mem' := (mk x y)) 2 rfl ?_
    refine mS_ic3 rfl (fun _ => ?_) (fun _ => ?_)
    · refine mS_steps (pc' := 60) (ls' := [.ref 234, .int a1, mU, .int a3, .int a4, .int a5, .int a6, .int a7]) (st' := [.int (-1 : Int32), .int a4]) (mem' := (mk x y)) 2 rfl ?_
      refine mS_ic1 rfl (fun _ => ?_) (fun _ => ?_)
      · refine mS_steps (pc' := 69) (ls' := [.ref 234, .int a1, mU, .int a3, .int a4, .int a5, .int a6, .int a7]) (st' := [.int a6]) (mem' := (mk x y)) 2 rfl ?_
        exact mS_reti ⟨_, _, _, _, _, rfl, rfl⟩ rfl
      · refine mS_steps (pc' := 69) (ls' := [.ref 234, .int a1, mU, .int a3, .int a4, .int a5, .int a6, .int a7]) (st' := [.int (-1 : Int32)]) (mem' := (mk x y)) 1 rfl ?_
        exact mS_reti ⟨_, _, _, _, _, rfl, rfl⟩ rfl
    · refine mS_steps (pc' := 19) (ls' := [.ref 234, .int a1, mU, .int a3, .int a4, .int a5, .int a6, .int a7]) (st' := [.int a1, .int a5]) (mem' := (mk x y)) 2 rfl ?_
      refine mS_ic0 rfl (fun _ => ?_) (fun _ => ?_)
      · refine mS_steps (pc' := 60) (ls' := [.ref 234, .int a1, mU, .int a3, .int a4, .int a5, .int a6, .int a7]) (st' := [.int (-1 : Int32), .int a4]) (mem' := (mk x y)) 2 rfl ?_
        refine mS_ic1 rfl (fun _ => ?_) (fun _ => ?_)
        · refine mS_steps (pc' := 69) (ls' := [.ref 234, .int a1, mU, .int a3, .int a4, .int a5, .int a6, .int a7]) (st' := [.int a6]) (mem' := (mk x y)) 2 rfl ?_
          exact mS_reti ⟨_, _, _, _, _, rfl, rfl⟩ rfl
        · refine mS_steps (pc' := 69) (ls' := [.ref 234, .int a1, mU, .int a3, .int a4, .int a5, .int a6, .int a7]) (st' := [.int (-1 : Int32)]) (mem' := (mk x y)) 1 rfl ?_
          exact mS_reti ⟨_, _, _, _, _, rfl, rfl⟩ rfl
      · refine mS_steps (pc' := 25) (ls' := [.ref 234, .int a1, mU, .int a3, .int a4, .int a5, .int a6, .int a7]) (st' := [.int (-1 : Int32), .int a5]) (mem' := (mk x y)) 2 rfl ?_
        refine mS_ic0 rfl (fun _ => ?_) (fun _ => ?_)
        · refine mS_steps (pc' := 60) (ls' := [.ref 234, .int a1, mU, .int a3, .int a4, .int a5, .int a6, .int a7]) (st' := [.int (-1 : Int32), .int a4]) (mem' := (mk x y)) 2 rfl ?_
          refine mS_ic1 rfl (fun _ => ?_) (fun _ => ?_)
          · refine mS_steps (pc' := 69) (ls' := [.ref 234, .int a1, mU, .int a3, .int a4, .int a5, .int a6, .int a7]) (st' := [.int a6]) (mem' := (mk x y)) 2 rfl ?_
            exact mS_reti ⟨_, _, _, _, _, rfl, rfl⟩ rfl
          · refine mS_steps (pc' := 69) (ls' := [.ref 234, .int a1, mU, .int a3, .int a4, .int a5, .int a6, .int a7]) (st' := [.int (-1 : Int32)]) (mem' := (mk x y)) 1 rfl ?_
            exact mS_reti ⟨_, _, _, _, _, rfl, rfl⟩ rfl
        · refine mS_steps (pc' := 33) (ls' := [.ref 234, .int a1, mU, .int a3, .int a4, .int a5, .int a6, .int a7]) (st' := [.int a3, .int a5, .int a1, .ref 234]) (mem' := (mk x y)) 4 rfl ?_
          refine mS_bind (fun q1 hq1 => mS_call 137 4 [.ref 234, .int a1, .int a5, .int a3] [] rfl rfl rfl ⟨_, _, _, rfl, rfl⟩ (Nat.le_of_ble_eq_true rfl) (Nat.le_of_ble_eq_true rfl) hq1 (f_X7_next_snd a1 a5 a3 x y) ?_)
          refine mS_steps (pc' := 42) (ls' := [.ref 234, .int a1, mU, .int a3, .int a4, .int q1, .int a6, .int a7]) (st' := [.int a4, .int a6]) (mem' := (mk x y)) 3 rfl ?_
          refine mS_ic1 rfl (fun _ => ?_) (fun _ => ?_)
          · refine mS_steps (pc' := 47) (ls' := [.ref 234, .int a1, mU, .int a3, .int a4, .int q1, .int a6, .int a7]) (st' := [.int q1]) (mem' := (mk x y)) 1 rfl ?_
            exact mS_reti ⟨_, _, _, _, _, rfl, rfl⟩ rfl
          · refine mS_steps (pc' := 9) (ls' := [.ref 234, .int a1, mU, .int a3, .int a4, .int q1, .int (a6 + (1 : Int32)), .int (a7 + (1 : Int32))]) (st' := []) (mem' := (mk x y)) 3 rfl ?_
            exact ih q1 (a6 + (1 : Int32)) (a7 + (1 : Int32))
set_option maxRecDepth 20000 in
set_option maxHeartbeats 2000000 in
theorem f_X7_along_snd {fm : Value} {L : Nat} {xs : Nat → Int32} (p1 : Int32) (p2 : Int32) (p3 : Int32) (p4 : Int32) (x : mX) (y : mY) : mS fm L xs (fun r : Int32 => (.int r, (mk x y))) pg_X7_along 0 (m_entry [.ref 234, .int p1, .int p2, .int p3, .int p4] 8) [] (mk x y) ((f_X7_along p1 p2 p3 p4 x)) := by
  unfold f_X7_along
  refine mS_steps (pc' := 0) (ls' := [.ref 234, .int p1, .int p2, .int p3, .int p4, mU, mU, mU]) (st' := []) (mem' := (mk x y)) 0 rfl ?_
  refine mS_steps (pc' := 9) (ls' := [.ref 234, .int p1, .int p2, .int p3, .int p4, .int p2, .int (0 : Int32), .int (0 : Int32)]) (st' := []) (mem' := (mk x y)) 6 rfl ?_
  refine mS_forget [.ref 234, .int p1, mU, .int p3, .int p4, .int p2, .int (0 : Int32), .int (0 : Int32)] ⟨Or.inr rfl, Or.inr rfl, Or.inl rfl, Or.inr rfl, Or.inr rfl, Or.inr rfl, Or.inr rfl, Or.inr rfl, trivial⟩ ?_
  refine f_X7_along_L9_snd p1 p3 p4 x y mF p2 (0 : Int32) (0 : Int32)
def f_X10_way (p1 : Int32) (p2 : Int32) (p3 : Int32) (p4 : Int32) (x : mX) : Option (Int32 × mX) := (if (f_X10_isColour p3) = 0 then (some ((-1 : Int32), x)) else ((f_X10_hasWay p1 p2 x).bind fun q1 => (if q1.1 = 0 then (some ((-1 : Int32), q1.2)) else ((f_X7_along p1 p2 p3 p4 q1.2).bind fun q2 => (some (q2, q1.2))))))
set_option maxRecDepth 20000 in
set_option maxHeartbeats 2000000 in
theorem f_X10_way_snd {fm : Value} {L : Nat} {xs : Nat → Int32} (p1 : Int32) (p2 : Int32) (p3 : Int32) (p4 : Int32) (x : mX) (y : mY) : mS fm L xs (fun r : (Int32 × mX) => (.int r.1, mk r.2 y)) pg_X10_way 0 (m_entry [.ref 0, .int p1, .int p2, .int p3, .int p4] 5) [] (mk x y) ((f_X10_way p1 p2 p3 p4 x)) := by
  unfold f_X10_way
  refine mS_steps (pc' := 0) (ls' := [.ref 0, .int p1, .int p2, .int p3, .int p4]) (st' := []) (mem' := (mk x y)) 0 rfl ?_
  refine mS_steps (pc' := 1) (ls' := [.ref 0, .int p1, .int p2, .int p3, .int p4]) (st' := [.int p3]) (mem' := (mk x y)) 1 rfl ?_
  refine mS_call (q := (f_X10_isColour p3)) 195 1 [.int p3] [] rfl rfl rfl ⟨_, _, _, rfl, rfl⟩ (Nat.le_of_ble_eq_true rfl) (Nat.le_of_ble_eq_true rfl) rfl (f_X10_isColour_snd p3 (mk x y)) ?_
  refine mS_steps (pc' := 4) (ls' := [.ref 0, .int p1, .int p2, .int p3, .int p4]) (st' := [.int (f_X10_isColour p3)]) (mem' := (mk x y)) 0 rfl ?_
  refine mS_if0 rfl (fun _ => ?_) (fun _ => ?_)
  · refine mS_steps (pc' := 32) (ls' := [.ref 0, .int p1, .int p2, .int p3, .int p4]) (st' := [.int (-1 : Int32)]) (mem' := (mk x y)) 1 rfl ?_
    exact mS_reti ⟨_, _, _, _, _, rfl, rfl⟩ rfl
  · refine mS_steps (pc' := 10) (ls' := [.ref 0, .int p1, .int p2, .int p3, .int p4]) (st' := [.int p2, .int p1, .ref 0]) (mem' := (mk x y)) 3 rfl ?_
    refine mS_bind (fun q1 hq1 => mS_call 186 3 [.ref 0, .int p1, .int p2] [] rfl rfl rfl ⟨_, _, _, rfl, rfl⟩ (Nat.le_of_ble_eq_true rfl) (Nat.le_of_ble_eq_true rfl) hq1 (f_X10_hasWay_snd p1 p2 x y) ?_)
    refine mS_steps (pc' := 13) (ls' := [.ref 0, .int p1, .int p2, .int p3, .int p4]) (st' := [.int q1.1]) (mem' := (mk q1.2 y)) 0 rfl ?_
    refine mS_if0 rfl (fun _ => ?_) (fun _ => ?_)
    · refine mS_steps (pc' := 32) (ls' := [.ref 0, .int p1, .int p2, .int p3, .int p4]) (st' := [.int (-1 : Int32)]) (mem' := (mk q1.2 y)) 1 rfl ?_
      exact mS_reti ⟨_, _, _, _, _, rfl, rfl⟩ rfl
    · refine mS_steps (pc' := 25) (ls' := [.ref 0, .int p1, .int p2, .int p3, .int p4]) (st' := [.int p4, .int p3, .int p2, .int p1, .ref 234]) (mem' := (mk q1.2 y)) 6 rfl ?_
      refine mS_bind (fun q2 hq2 => mS_call 198 5 [.ref 234, .int p1, .int p2, .int p3, .int p4] [] rfl rfl rfl ⟨_, _, _, rfl, rfl⟩ (Nat.le_of_ble_eq_true rfl) (Nat.le_of_ble_eq_true rfl) hq2 (f_X7_along_snd p1 p2 p3 p4 q1.2 y) ?_)
      refine mS_steps (pc' := 32) (ls' := [.ref 0, .int p1, .int p2, .int p3, .int p4]) (st' := [.int q2]) (mem' := (mk q1.2 y)) 1 rfl ?_
      exact mS_reti ⟨_, _, _, _, _, rfl, rfl⟩ rfl
def f_X11_way_L32 (a1 : Int32) (a3 : Int32) (a4 : Int32) : Nat → Int32 → Int32 → mY → Option (Int32 × mY)
  | 0, _, _, _ => none
  | n + 1, a5, a6, y => (if a6 = a1 then (if a4 = (-1 : Int32) then (some (a5, y)) else (some ((-1 : Int32), y))) else ((f_X11_hopOf a1 a6 a3 y).bind fun q2 => (if a5 = a4 then (some (q2, y)) else (f_X11_way_L32 a1 a3 a4 n (a5 + (1 : Int32)) q2 y))))
def f_X11_way (p1 : Int32) (p2 : Int32) (p3 : Int32) (p4 : Int32) (y : mY) : Option (Int32 × mY) := ((f_X11_placeOf p1 p2 y).bind fun q1 => (if q1.1 < 0 then (some ((-1 : Int32), q1.2)) else (if (f_X11_in p3 (0 : Int32) (1 : Int32)) = 0 then (some ((-1 : Int32), q1.2)) else (if (-1 : Int32) ≤ p4 then (f_X11_way_L32 p1 p3 p4 mF (0 : Int32) p2 q1.2) else (some ((-1 : Int32), q1.2))))))
set_option maxRecDepth 20000 in
set_option maxHeartbeats 2000000 in
theorem f_X11_way_L32_snd {fm : Value} {L : Nat} {xs : Nat → Int32} (a1 : Int32) (a3 : Int32) (a4 : Int32) (y : mY) (x : mX) : ∀ (n : Nat) (a5 : Int32) (a6 : Int32), mS fm L xs (fun r : (Int32 × mY) => (.int r.1, mk x r.2)) pg_X11_way 32 [.ref 279, .int a1, mU, .int a3, .int a4, .int a5, .int a6] [] (mk x y) (f_X11_way_L32 a1 a3 a4 n a5 a6 y) := by
  intro n
  induction n with
  | zero => intro a5 a6; exact mS_none
  | succ n ih =>
    intro a5 a6
    rw [f_X11_way_L32]
    refine mS_steps (pc' := 35) (ls' := [.ref 279, .int a1, mU, .int a3, .int a4, .int a5, .int a6]) (st' := [.int a1, .int a6]) (mem' := (mk x y)) 2 rfl ?_
    refine mS_ic0 rfl (fun _ => ?_) (fun _ => ?_)
    · refine mS_steps (pc' := 67) (ls' := [.ref 279, .int a1, mU, .int a3, .int a4, .int a5, .int a6]) (st' := [.int (-1 : Int32), .int a4]) (mem' := (mk x y)) 2 rfl ?_
      refine mS_ic1 rfl (fun _ => ?_) (fun _ => ?_)
      · refine mS_steps (pc' := 76) (ls' := [.ref 279, .int a1, mU, .int a3, .int a4, .int a5, .int a6]) (st' := [.int a5]) (mem' := (mk x y)) 2 rfl ?_
        exact mS_reti ⟨_, _, _, _, _, rfl, rfl⟩ rfl
      · refine mS_steps (pc' := 76) (ls' := [.ref 279, .int a1, mU, .int a3, .int a4, .int a5, .int a6]) (st' := [.int (-1 : Int32)]) (mem' := (mk x y)) 1 rfl ?_
        exact mS_reti ⟨_, _, _, _, _, rfl, rfl⟩ rfl
    · refine mS_steps (pc' := 43) (ls' := [.ref 279, .int a1, mU, .int a3, .int a4, .int a5, .int a6]) (st' := [.int a3, .int a6, .int a1, .ref 279]) (mem' := (mk x y)) 4 rfl ?_
      refine mS_bind (fun q2 hq2 => mS_call 157 4 [.ref 279, .int a1, .int a6, .int a3] [] rfl rfl rfl ⟨_, _, _, rfl, rfl⟩ (Nat.le_of_ble_eq_true rfl) (Nat.le_of_ble_eq_true rfl) hq2 (f_X11_hopOf_snd a1 a6 a3 y x) ?_)
      refine mS_steps (pc' := 52) (ls' := [.ref 279, .int a1, mU, .int a3, .int a4, .int a5, .int q2]) (st' := [.int a4, .int a5]) (mem' := (mk x y)) 3 rfl ?_
      refine mS_ic1 rfl (fun _ => ?_) (fun _ => ?_)
      · refine mS_steps (pc' := 57) (ls' := [.ref 279, .int a1, mU, .int a3, .int a4, .int a5, .int q2]) (st' := [.int q2]) (mem' := (mk x y)) 1 rfl ?_
        exact mS_reti ⟨_, _, _, _, _, rfl, rfl⟩ rfl
      · refine mS_steps (pc' := 32) (ls' := [.ref 279, .int a1, mU, .int a3, .int a4, .int (a5 + (1 : Int32)), .int q2]) (st' := []) (mem' := (mk x y)) 2 rfl ?_
        exact ih (a5 + (1 : Int32)) q2
set_option maxRecDepth 20000 in
set_option maxHeartbeats 2000000 in
theorem f_X11_way_snd {fm : Value} {L : Nat} {xs : Nat → Int32} (p1 : Int32) (p2 : Int32) (p3 : Int32) (p4 : Int32) (y : mY) (x : mX) : mS fm L xs (fun r : (Int32 × mY) => (.int r.1, mk x r.2)) pg_X11_way 0 (m_entry [.ref 279, .int p1, .int p2, .int p3, .int p4] 7) [] (mk x y) ((f_X11_way p1 p2 p3 p4 y)) := by
  unfold f_X11_way
  refine mS_steps (pc' := 0) (ls' := [.ref 279, .int p1, .int p2, .int p3, .int p4, mU, mU]) (st' := []) (mem' := (mk x y)) 0 rfl ?_
  refine mS_steps (pc' := 3) (ls' := [.ref 279, .int p1, .int p2, .int p3, .int p4, mU, mU]) (st' := [.int p2, .int p1, .ref 279]) (mem' := (mk x y)) 3 rfl ?_
  refine mS_bind (fun q1 hq1 => mS_call 189 3 [.ref 279, .int p1, .int p2] [] rfl rfl rfl ⟨_, _, _, rfl, rfl⟩ (Nat.le_of_ble_eq_true rfl) (Nat.le_of_ble_eq_true rfl) hq1 (f_X11_placeOf_snd p1 p2 y x) ?_)
  refine mS_steps (pc' := 6) (ls' := [.ref 279, .int p1, .int p2, .int p3, .int p4, mU, mU]) (st' := [.int q1.1]) (mem' := (mk x q1.2)) 0 rfl ?_
  refine mS_if2 rfl (fun _ => ?_) (fun _ => ?_)
  · refine mS_steps (pc' := 25) (ls' := [.ref 279, .int p1, .int p2, .int p3, .int p4, mU, mU]) (st' := [.int (-1 : Int32)]) (mem' := (mk x q1.2)) 1 rfl ?_
    exact mS_reti ⟨_, _, _, _, _, rfl, rfl⟩ rfl
  · refine mS_steps (pc' := 12) (ls' := [.ref 279, .int p1, .int p2, .int p3, .int p4, mU, mU]) (st' := [.int (1 : Int32), .int (0 : Int32), .int p3]) (mem' := (mk x q1.2)) 3 rfl ?_
    refine mS_call (q := (f_X11_in p3 (0 : Int32) (1 : Int32))) 83 3 [.int p3, .int (0 : Int32), .int (1 : Int32)] [] rfl rfl rfl ⟨_, _, _, rfl, rfl⟩ (Nat.le_of_ble_eq_true rfl) (Nat.le_of_ble_eq_true rfl) rfl (f_X11_in_snd p3 (0 : Int32) (1 : Int32) (mk x q1.2)) ?_
    refine mS_steps (pc' := 15) (ls' := [.ref 279, .int p1, .int p2, .int p3, .int p4, mU, mU]) (st' := [.int (f_X11_in p3 (0 : Int32) (1 : Int32))]) (mem' := (mk x q1.2)) 0 rfl ?_
    refine mS_if0 rfl (fun _ => ?_) (fun _ => ?_)
    · refine mS_steps (pc' := 25) (ls' := [.ref 279, .int p1, .int p2, .int p3, .int p4, mU, mU]) (st' := [.int (-1 : Int32)]) (mem' := (mk x q1.2)) 1 rfl ?_
      exact mS_reti ⟨_, _, _, _, _, rfl, rfl⟩ rfl
    · refine mS_steps (pc' := 21) (ls' := [.ref 279, .int p1, .int p2, .int p3, .int p4, mU, mU]) (st' := [.int (-1 : Int32), .int p4]) (mem' := (mk x q1.2)) 2 rfl ?_
      refine mS_ic3 rfl (fun _ => ?_) (fun _ => ?_)
      · refine mS_steps (pc' := 32) (ls' := [.ref 279, .int p1, .int p2, .int p3, .int p4, .int (0 : Int32), .int p2]) (st' := []) (mem' := (mk x q1.2)) 4 rfl ?_
        refine mS_forget [.ref 279, .int p1, mU, .int p3, .int p4, .int (0 : Int32), .int p2] ⟨Or.inr rfl, Or.inr rfl, Or.inl rfl, Or.inr rfl, Or.inr rfl, Or.inr rfl, Or.inr rfl, trivial⟩ ?_
        refine f_X11_way_L32_snd p1 p3 p4 q1.2 x mF (0 : Int32) p2
      · refine mS_steps (pc' := 25) (ls' := [.ref 279, .int p1, .int p2, .int p3, .int p4, mU, mU]) (st' := [.int (-1 : Int32)]) (mem' := (mk x q1.2)) 1 rfl ?_
        exact mS_reti ⟨_, _, _, _, _, rfl, rfl⟩ rfl
def f_X7_passed_L9 (a1 : Int32) (a3 : Int32) : Nat → Int32 → Int32 → Int32 → mX → Option Int32
  | 0, _, _, _, _ => none
  | n + 1, a4, a5, a6, x => (if (8 : Int32) ≤ a6 then (some a5) else (if a4 = a1 then (some a5) else (if a4 = (-1 : Int32) then (some a5) else ((f_X7_next a1 a4 a3 x).bind fun q1 => (f_X7_passed_L9 a1 a3 n q1 (a5 ||| ((1 : Int32) <<< (a4 &&& 31))) (a6 + (1 : Int32)) x)))))
def f_X7_passed (p1 : Int32) (p2 : Int32) (p3 : Int32) (x : mX) : Option Int32 := (f_X7_passed_L9 p1 p3 mF p2 (0 : Int32) (0 : Int32) x)
set_option maxRecDepth 20000 in
set_option maxHeartbeats 2000000 in
theorem f_X7_passed_L9_snd {fm : Value} {L : Nat} {xs : Nat → Int32} (a1 : Int32) (a3 : Int32) (x : mX) (y : mY) : ∀ (n : Nat) (a4 : Int32) (a5 : Int32) (a6 : Int32), mS fm L xs (fun r : Int32 => (.int r, (mk x y))) pg_X7_passed 9 [.ref 234, .int a1, mU, .int a3, .int a4, .int a5, .int a6] [] (mk x y) (f_X7_passed_L9 a1 a3 n a4 a5 a6 x) := by
  intro n
  induction n with
  | zero => intro a4 a5 a6; exact mS_none
  | succ n ih =>
    intro a4 a5 a6
    rw [f_X7_passed_L9]
    refine mS_steps (pc' := 13) (ls' := [.ref 234, .int a1, mU, .int a3, .int a4, .int a5, .int a6]) (st' := [.int (8 : Int32), .int a6]) (mem' := (mk x y)) 2 rfl ?_
    refine mS_ic3 rfl (fun _ => ?_) (fun _ => ?_)
    · refine mS_steps (pc' := 55) (ls' := [.ref 234, .int a1, mU, .int a3, .int a4, .int a5, .int a6]) (st' := [.int a5]) (mem' := (mk x y)) 1 rfl ?_
      exact mS_reti ⟨_, _, _, _, _, rfl, rfl⟩ rfl
    · refine mS_steps (pc' := 19) (ls' := [.ref 234, .int a1, mU, .int a3, .int a4, .int a5, .int a6]) (st' := [.int a1, .int a4]) (mem' := (mk x y)) 2 rfl ?_
      refine mS_ic0 rfl (fun _ => ?_) (fun _ => ?_)
      · refine mS_steps (pc' := 55) (ls' := [.ref 234, .int a1, mU, .int a3, .int a4, .int a5, .int a6]) (st' := [.int a5]) (mem' := (mk x y)) 1 rfl ?_
        exact mS_reti ⟨_, _, _, _, _, rfl, rfl⟩ rfl
      · refine mS_steps (pc' := 25) (ls' := [.ref 234, .int a1, mU, .int a3, .int a4, .int a5, .int a6]) (st' := [.int (-1 : Int32), .int a4]) (mem' := (mk x y)) 2 rfl ?_
        refine mS_ic0 rfl (fun _ => ?_) (fun _ => ?_)
        · refine mS_steps (pc' := 55) (ls' := [.ref 234, .int a1, mU, .int a3, .int a4, .int a5, .int a6]) (st' := [.int a5]) (mem' := (mk x y)) 1 rfl ?_
          exact mS_reti ⟨_, _, _, _, _, rfl, rfl⟩ rfl
        · refine mS_steps (pc' := 42) (ls' := [.ref 234, .int a1, mU, .int a3, .int a4, .int (a5 ||| ((1 : Int32) <<< (a4 &&& 31))), .int a6]) (st' := [.int a3, .int a4, .int a1, .ref 234]) (mem' := (mk x y)) 10 rfl ?_
          refine mS_bind (fun q1 hq1 => mS_call 137 4 [.ref 234, .int a1, .int a4, .int a3] [] rfl rfl rfl ⟨_, _, _, rfl, rfl⟩ (Nat.le_of_ble_eq_true rfl) (Nat.le_of_ble_eq_true rfl) hq1 (f_X7_next_snd a1 a4 a3 x y) ?_)
          refine mS_steps (pc' := 9) (ls' := [.ref 234, .int a1, mU, .int a3, .int q1, .int (a5 ||| ((1 : Int32) <<< (a4 &&& 31))), .int (a6 + (1 : Int32))]) (st' := []) (mem' := (mk x y)) 3 rfl ?_
          exact ih q1 (a5 ||| ((1 : Int32) <<< (a4 &&& 31))) (a6 + (1 : Int32))
set_option maxRecDepth 20000 in
set_option maxHeartbeats 2000000 in
theorem f_X7_passed_snd {fm : Value} {L : Nat} {xs : Nat → Int32} (p1 : Int32) (p2 : Int32) (p3 : Int32) (x : mX) (y : mY) : mS fm L xs (fun r : Int32 => (.int r, (mk x y))) pg_X7_passed 0 (m_entry [.ref 234, .int p1, .int p2, .int p3] 7) [] (mk x y) ((f_X7_passed p1 p2 p3 x)) := by
  unfold f_X7_passed
  refine mS_steps (pc' := 0) (ls' := [.ref 234, .int p1, .int p2, .int p3, mU, mU, mU]) (st' := []) (mem' := (mk x y)) 0 rfl ?_
  refine mS_steps (pc' := 9) (ls' := [.ref 234, .int p1, .int p2, .int p3, .int p2, .int (0 : Int32), .int (0 : Int32)]) (st' := []) (mem' := (mk x y)) 6 rfl ?_
  refine mS_forget [.ref 234, .int p1, mU, .int p3, .int p2, .int (0 : Int32), .int (0 : Int32)] ⟨Or.inr rfl, Or.inr rfl, Or.inl rfl, Or.inr rfl, Or.inr rfl, Or.inr rfl, Or.inr rfl, trivial⟩ ?_
  refine f_X7_passed_L9_snd p1 p3 x y mF p2 (0 : Int32) (0 : Int32)
def f_X7_shared (p1 : Int32) (p2 : Int32) (x : mX) : Option Int32 := ((f_X7_passed p1 p2 (0 : Int32) x).bind fun q1 => ((f_X7_passed p1 p2 (1 : Int32) x).bind fun q2 => (some ((q1 &&& q2) &&& (((1 : Int32) <<< (p2 &&& 31)) ^^^ (-1 : Int32))))))
set_option maxRecDepth 20000 in
set_option maxHeartbeats 2000000 in
theorem f_X7_shared_snd {fm : Value} {L : Nat} {xs : Nat → Int32} (p1 : Int32) (p2 : Int32) (x : mX) (y : mY) : mS fm L xs (fun r : Int32 => (.int r, (mk x y))) pg_X7_shared 0 (m_entry [.ref 234, .int p1, .int p2] 3) [] (mk x y) ((f_X7_shared p1 p2 x)) := by
  unfold f_X7_shared
  refine mS_steps (pc' := 0) (ls' := [.ref 234, .int p1, .int p2]) (st' := []) (mem' := (mk x y)) 0 rfl ?_
  refine mS_steps (pc' := 4) (ls' := [.ref 234, .int p1, .int p2]) (st' := [.int (0 : Int32), .int p2, .int p1, .ref 234]) (mem' := (mk x y)) 4 rfl ?_
  refine mS_bind (fun q1 hq1 => mS_call 201 4 [.ref 234, .int p1, .int p2, .int (0 : Int32)] [] rfl rfl rfl ⟨_, _, _, rfl, rfl⟩ (Nat.le_of_ble_eq_true rfl) (Nat.le_of_ble_eq_true rfl) hq1 (f_X7_passed_snd p1 p2 (0 : Int32) x y) ?_)
  refine mS_steps (pc' := 11) (ls' := [.ref 234, .int p1, .int p2]) (st' := [.int (1 : Int32), .int p2, .int p1, .ref 234, .int q1]) (mem' := (mk x y)) 4 rfl ?_
  refine mS_bind (fun q2 hq2 => mS_call 201 4 [.ref 234, .int p1, .int p2, .int (1 : Int32)] [.int q1] rfl rfl rfl ⟨_, _, _, rfl, rfl⟩ (Nat.le_of_ble_eq_true rfl) (Nat.le_of_ble_eq_true rfl) hq2 (f_X7_passed_snd p1 p2 (1 : Int32) x y) ?_)
  refine mS_steps (pc' := 21) (ls' := [.ref 234, .int p1, .int p2]) (st' := [.int ((q1 &&& q2) &&& (((1 : Int32) <<< (p2 &&& 31)) ^^^ (-1 : Int32)))]) (mem' := (mk x y)) 7 rfl ?_
  exact mS_reti ⟨_, _, _, _, _, rfl, rfl⟩ rfl
def f_X10_both (p1 : Int32) (p2 : Int32) (x : mX) : Option (Int32 × mX) := ((f_X10_hasWay p1 p2 x).bind fun q1 => (if q1.1 = 0 then (some ((-1 : Int32), q1.2)) else ((f_X7_shared p1 p2 q1.2).bind fun q2 => (some (q2, q1.2)))))
set_option maxRecDepth 20000 in
set_option maxHeartbeats 2000000 in
theorem f_X10_both_snd {fm : Value} {L : Nat} {xs : Nat → Int32} (p1 : Int32) (p2 : Int32) (x : mX) (y : mY) : mS fm L xs (fun r : (Int32 × mX) => (.int r.1, mk r.2 y)) pg_X10_both 0 (m_entry [.ref 0, .int p1, .int p2] 3) [] (mk x y) ((f_X10_both p1 p2 x)) := by
  unfold f_X10_both
  refine mS_steps (pc' := 0) (ls' := [.ref 0, .int p1, .int p2]) (st' := []) (mem' := (mk x y)) 0 rfl ?_
  refine mS_steps (pc' := 3) (ls' := [.ref 0, .int p1, .int p2]) (st' := [.int p2, .int p1, .ref 0]) (mem' := (mk x y)) 3 rfl ?_
  refine mS_bind (fun q1 hq1 => mS_call 186 3 [.ref 0, .int p1, .int p2] [] rfl rfl rfl ⟨_, _, _, rfl, rfl⟩ (Nat.le_of_ble_eq_true rfl) (Nat.le_of_ble_eq_true rfl) hq1 (f_X10_hasWay_snd p1 p2 x y) ?_)
  refine mS_steps (pc' := 6) (ls' := [.ref 0, .int p1, .int p2]) (st' := [.int q1.1]) (mem' := (mk q1.2 y)) 0 rfl ?_
  refine mS_if0 rfl (fun _ => ?_) (fun _ => ?_)
  · refine mS_steps (pc' := 22) (ls' := [.ref 0, .int p1, .int p2]) (st' := [.int (-1 : Int32)]) (mem' := (mk q1.2 y)) 1 rfl ?_
    exact mS_reti ⟨_, _, _, _, _, rfl, rfl⟩ rfl
  · refine mS_steps (pc' := 15) (ls' := [.ref 0, .int p1, .int p2]) (st' := [.int p2, .int p1, .ref 234]) (mem' := (mk q1.2 y)) 4 rfl ?_
    refine mS_bind (fun q2 hq2 => mS_call 202 3 [.ref 234, .int p1, .int p2] [] rfl rfl rfl ⟨_, _, _, rfl, rfl⟩ (Nat.le_of_ble_eq_true rfl) (Nat.le_of_ble_eq_true rfl) hq2 (f_X7_shared_snd p1 p2 q1.2 y) ?_)
    refine mS_steps (pc' := 22) (ls' := [.ref 0, .int p1, .int p2]) (st' := [.int q2]) (mem' := (mk q1.2 y)) 1 rfl ?_
    exact mS_reti ⟨_, _, _, _, _, rfl, rfl⟩ rfl
def f_X11_onWay_L12 (a1 : Int32) (a3 : Int32) : Nat → Int32 → Int32 → mY → Option Int32
  | 0, _, _, _ => none
  | n + 1, a4, a5, y => (if a5 = a1 then (some a4) else ((f_X11_hopOf a1 a5 a3 y).bind fun q2 => (f_X11_onWay_L12 a1 a3 n (a4 ||| ((1 : Int32) <<< (a5 &&& 31))) q2 y)))
def f_X11_onWay (p1 : Int32) (p2 : Int32) (p3 : Int32) (y : mY) : Option Int32 := ((f_X11_hopOf p1 p2 p3 y).bind fun q1 => (f_X11_onWay_L12 p1 p3 mF (0 : Int32) q1 y))
set_option maxRecDepth 20000 in
set_option maxHeartbeats 2000000 in
theorem f_X11_onWay_L12_snd {fm : Value} {L : Nat} {xs : Nat → Int32} (a1 : Int32) (a3 : Int32) (y : mY) (x : mX) : ∀ (n : Nat) (a4 : Int32) (a5 : Int32), mS fm L xs (fun r : Int32 => (.int r, (mk x y))) pg_X11_onWay 12 [.ref 279, .int a1, mU, .int a3, .int a4, .int a5] [] (mk x y) (f_X11_onWay_L12 a1 a3 n a4 a5 y) := by
  intro n
  induction n with
  | zero => intro a4 a5; exact mS_none
  | succ n ih =>
    intro a4 a5
    rw [f_X11_onWay_L12]
    refine mS_steps (pc' := 15) (ls' := [.ref 279, .int a1, mU, .int a3, .int a4, .int a5]) (st' := [.int a1, .int a5]) (mem' := (mk x y)) 2 rfl ?_
    refine mS_ic0 rfl (fun _ => ?_) (fun _ => ?_)
    · refine mS_steps (pc' := 42) (ls' := [.ref 279, .int a1, mU, .int a3, .int a4, .int a5]) (st' := [.int a4]) (mem' := (mk x y)) 1 rfl ?_
      exact mS_reti ⟨_, _, _, _, _, rfl, rfl⟩ rfl
    · refine mS_steps (pc' := 32) (ls' := [.ref 279, .int a1, mU, .int a3, .int (a4 ||| ((1 : Int32) <<< (a5 &&& 31))), .int a5]) (st' := [.int a3, .int a5, .int a1, .ref 279]) (mem' := (mk x y)) 10 rfl ?_
      refine mS_bind (fun q2 hq2 => mS_call 157 4 [.ref 279, .int a1, .int a5, .int a3] [] rfl rfl rfl ⟨_, _, _, rfl, rfl⟩ (Nat.le_of_ble_eq_true rfl) (Nat.le_of_ble_eq_true rfl) hq2 (f_X11_hopOf_snd a1 a5 a3 y x) ?_)
      refine mS_steps (pc' := 12) (ls' := [.ref 279, .int a1, mU, .int a3, .int (a4 ||| ((1 : Int32) <<< (a5 &&& 31))), .int q2]) (st' := []) (mem' := (mk x y)) 2 rfl ?_
      exact ih (a4 ||| ((1 : Int32) <<< (a5 &&& 31))) q2
set_option maxRecDepth 20000 in
set_option maxHeartbeats 2000000 in
theorem f_X11_onWay_snd {fm : Value} {L : Nat} {xs : Nat → Int32} (p1 : Int32) (p2 : Int32) (p3 : Int32) (y : mY) (x : mX) : mS fm L xs (fun r : Int32 => (.int r, (mk x y))) pg_X11_onWay 0 (m_entry [.ref 279, .int p1, .int p2, .int p3] 6) [] (mk x y) ((f_X11_onWay p1 p2 p3 y)) := by
  unfold f_X11_onWay
  refine mS_steps (pc' := 0) (ls' := [.ref 279, .int p1, .int p2, .int p3, mU, mU]) (st' := []) (mem' := (mk x y)) 0 rfl ?_
  refine mS_steps (pc' := 7) (ls' := [.ref 279, .int p1, .int p2, .int p3, .int (0 : Int32), mU]) (st' := [.int p3, .int p2, .int p1, .ref 279]) (mem' := (mk x y)) 6 rfl ?_
  refine mS_bind (fun q1 hq1 => mS_call 157 4 [.ref 279, .int p1, .int p2, .int p3] [] rfl rfl rfl ⟨_, _, _, rfl, rfl⟩ (Nat.le_of_ble_eq_true rfl) (Nat.le_of_ble_eq_true rfl) hq1 (f_X11_hopOf_snd p1 p2 p3 y x) ?_)
  refine mS_steps (pc' := 12) (ls' := [.ref 279, .int p1, .int p2, .int p3, .int (0 : Int32), .int q1]) (st' := []) (mem' := (mk x y)) 1 rfl ?_
  refine mS_forget [.ref 279, .int p1, mU, .int p3, .int (0 : Int32), .int q1] ⟨Or.inr rfl, Or.inr rfl, Or.inl rfl, Or.inr rfl, Or.inr rfl, Or.inr rfl, trivial⟩ ?_
  refine f_X11_onWay_L12_snd p1 p3 y x mF (0 : Int32) q1
def f_X11_both (p1 : Int32) (p2 : Int32) (y : mY) : Option (Int32 × mY) := ((f_X11_placeOf p1 p2 y).bind fun q1 => (if 0 ≤ q1.1 then ((f_X11_onWay p1 p2 (0 : Int32) q1.2).bind fun q2 => ((f_X11_onWay p1 p2 (1 : Int32) q1.2).bind fun q3 => (some ((q2 &&& q3), q1.2)))) else (some ((-1 : Int32), q1.2))))
set_option maxRecDepth 20000 in
set_option maxHeartbeats 2000000 in
theorem f_X11_both_snd {fm : Value} {L : Nat} {xs : Nat → Int32} (p1 : Int32) (p2 : Int32) (y : mY) (x : mX) : mS fm L xs (fun r : (Int32 × mY) => (.int r.1, mk x r.2)) pg_X11_both 0 (m_entry [.ref 279, .int p1, .int p2] 3) [] (mk x y) ((f_X11_both p1 p2 y)) := by
  unfold f_X11_both
  refine mS_steps (pc' := 0) (ls' := [.ref 279, .int p1, .int p2]) (st' := []) (mem' := (mk x y)) 0 rfl ?_
  refine mS_steps (pc' := 3) (ls' := [.ref 279, .int p1, .int p2]) (st' := [.int p2, .int p1, .ref 279]) (mem' := (mk x y)) 3 rfl ?_
  refine mS_bind (fun q1 hq1 => mS_call 189 3 [.ref 279, .int p1, .int p2] [] rfl rfl rfl ⟨_, _, _, rfl, rfl⟩ (Nat.le_of_ble_eq_true rfl) (Nat.le_of_ble_eq_true rfl) hq1 (f_X11_placeOf_snd p1 p2 y x) ?_)
  refine mS_steps (pc' := 6) (ls' := [.ref 279, .int p1, .int p2]) (st' := [.int q1.1]) (mem' := (mk x q1.2)) 0 rfl ?_
  refine mS_if3 rfl (fun _ => ?_) (fun _ => ?_)
  · refine mS_steps (pc' := 17) (ls' := [.ref 279, .int p1, .int p2]) (st' := [.int (0 : Int32), .int p2, .int p1, .ref 279]) (mem' := (mk x q1.2)) 4 rfl ?_
    refine mS_bind (fun q2 hq2 => mS_call 204 4 [.ref 279, .int p1, .int p2, .int (0 : Int32)] [] rfl rfl rfl ⟨_, _, _, rfl, rfl⟩ (Nat.le_of_ble_eq_true rfl) (Nat.le_of_ble_eq_true rfl) hq2 (f_X11_onWay_snd p1 p2 (0 : Int32) q1.2 x) ?_)
    refine mS_steps (pc' := 24) (ls' := [.ref 279, .int p1, .int p2]) (st' := [.int (1 : Int32), .int p2, .int p1, .ref 279, .int q2]) (mem' := (mk x q1.2)) 4 rfl ?_
    refine mS_bind (fun q3 hq3 => mS_call 204 4 [.ref 279, .int p1, .int p2, .int (1 : Int32)] [.int q2] rfl rfl rfl ⟨_, _, _, rfl, rfl⟩ (Nat.le_of_ble_eq_true rfl) (Nat.le_of_ble_eq_true rfl) hq3 (f_X11_onWay_snd p1 p2 (1 : Int32) q1.2 x) ?_)
    refine mS_steps (pc' := 28) (ls' := [.ref 279, .int p1, .int p2]) (st' := [.int (q2 &&& q3)]) (mem' := (mk x q1.2)) 1 rfl ?_
    exact mS_reti ⟨_, _, _, _, _, rfl, rfl⟩ rfl
  · refine mS_steps (pc' := 28) (ls' := [.ref 279, .int p1, .int p2]) (st' := [.int (-1 : Int32)]) (mem' := (mk x q1.2)) 2 rfl ?_
    exact mS_reti ⟨_, _, _, _, _, rfl, rfl⟩ rfl
def f_X9_meet (p1 : Int32) (p2 : Int32) (x : mX) : Option mX := (if (x.1 240 4) < 0 then (some x) else (if (x.1 240 4) < (8 : Int32) then (if m_in p1 8 = true then (m_let (m_xs x 241 p1.toNatClampNeg (x.1 240 4)) fun x1 => (if m_in p1 8 = true then (m_let (m_xs x1 242 p1.toNatClampNeg p2) fun x2 => (if m_in (x2.1 240 4) 8 = true then (m_let (m_xs x2 244 (x2.1 240 4).toNatClampNeg p1) fun x3 => (m_let (m_xs x3 240 4 ((x3.1 240 4) + (1 : Int32))) fun x4 => (some x4))) else none)) else none)) else none) else (some x)))
set_option maxRecDepth 20000 in
set_option maxHeartbeats 2000000 in
theorem f_X9_meet_snd {fm : Value} {L : Nat} {xs : Nat → Int32} (p1 : Int32) (p2 : Int32) (x : mX) (y : mY) : mS fm L xs (fun r : mX => (mU, mk r y)) pg_X9_meet 0 (m_entry [.ref 240, .int p1, .int p2] 3) [] (mk x y) ((f_X9_meet p1 p2 x)) := by
  unfold f_X9_meet
  refine mS_steps (pc' := 0) (ls' := [.ref 240, .int p1, .int p2]) (st' := []) (mem' := (mk x y)) 0 rfl ?_
  refine mS_steps (pc' := 4) (ls' := [.ref 240, .int p1, .int p2]) (st' := [.int (x.1 240 4)]) (mem' := (mk x y)) 2 rfl ?_
  refine mS_if2 rfl (fun _ => ?_) (fun _ => ?_)
  · exact mS_retv ⟨_, _, _, _, _, rfl⟩ rfl
  · refine mS_steps (pc' := 13) (ls' := [.ref 240, .int p1, .int p2]) (st' := [.int (8 : Int32), .int (x.1 240 4)]) (mem' := (mk x y)) 3 rfl ?_
    refine mS_ic2 rfl (fun _ => ?_) (fun _ => ?_)
    · refine mS_steps (pc' := 26) (ls' := [.ref 240, .int p1, .int p2]) (st' := [.int (x.1 240 4), .int p1, .ref 241]) (mem' := (mk x y)) 5 rfl ?_
      refine mS_ast0x (n := 8) rfl rfl (by decide) (fun _ => ?_)
      refine mS_letx (fun x1 => ?_)
      refine mS_steps (pc' := 33) (ls' := [.ref 240, .int p1, .int p2]) (st' := [.int p2, .int p1, .ref 242]) (mem' := (mk x1 y)) 4 rfl ?_
      refine mS_ast0x (n := 8) rfl rfl (by decide) (fun _ => ?_)
      refine mS_letx (fun x2 => ?_)
      refine mS_steps (pc' := 43) (ls' := [.ref 240, .int p1, .int p2]) (st' := [.int p1, .int (x2.1 240 4), .ref 244]) (mem' := (mk x2 y)) 5 rfl ?_
      refine mS_ast0x (n := 8) rfl rfl (by decide) (fun _ => ?_)
      refine mS_letx (fun x3 => ?_)
      refine mS_steps (pc' := 51) (ls' := [.ref 240, .int p1, .int p2]) (st' := [.int ((x3.1 240 4) + (1 : Int32)), .ref 240]) (mem' := (mk x3 y)) 5 rfl ?_
      refine mS_putx rfl rfl (by decide) rfl ?_
      refine mS_letx (fun x4 => ?_)
      exact mS_retv ⟨_, _, _, _, _, rfl⟩ rfl
    · exact mS_retv ⟨_, _, _, _, _, rfl⟩ rfl
def f_X9_lowestNew_L2 (a1 : Int32) : Nat → Int32 → mX → Option Int32
  | 0, _, _ => none
  | n + 1, a2, x => (if (8 : Int32) ≤ a2 then (some (-1 : Int32)) else (if (f_X10_has a1 a2) = 0 then (f_X9_lowestNew_L2 a1 n (a2 + (1 : Int32)) x) else (if m_in a2 8 = true then (if (x.1 241 a2.toNatClampNeg) = (-1 : Int32) then (some a2) else (f_X9_lowestNew_L2 a1 n (a2 + (1 : Int32)) x)) else none)))
def f_X9_lowestNew (p1 : Int32) (x : mX) : Option Int32 := (f_X9_lowestNew_L2 p1 mF (0 : Int32) x)
set_option maxRecDepth 20000 in
set_option maxHeartbeats 2000000 in
theorem f_X9_lowestNew_L2_snd {fm : Value} {L : Nat} {xs : Nat → Int32} (a1 : Int32) (x : mX) (y : mY) : ∀ (n : Nat) (a2 : Int32), mS fm L xs (fun r : Int32 => (.int r, (mk x y))) pg_X9_lowestNew 2 [.ref 240, .int a1, .int a2] [] (mk x y) (f_X9_lowestNew_L2 a1 n a2 x) := by
  intro n
  induction n with
  | zero => intro a2; exact mS_none
  | succ n ih =>
    intro a2
    rw [f_X9_lowestNew_L2]
    refine mS_steps (pc' := 5) (ls' := [.ref 240, .int a1, .int a2]) (st' := [.int (8 : Int32), .int a2]) (mem' := (mk x y)) 2 rfl ?_
    refine mS_ic3 rfl (fun _ => ?_) (fun _ => ?_)
    · refine mS_steps (pc' := 35) (ls' := [.ref 240, .int a1, .int a2]) (st' := [.int (-1 : Int32)]) (mem' := (mk x y)) 1 rfl ?_
      exact mS_reti ⟨_, _, _, _, _, rfl, rfl⟩ rfl
    · refine mS_steps (pc' := 10) (ls' := [.ref 240, .int a1, .int a2]) (st' := [.int a2, .int a1]) (mem' := (mk x y)) 2 rfl ?_
      refine mS_call (q := (f_X10_has a1 a2)) 57 2 [.int a1, .int a2] [] rfl rfl rfl ⟨_, _, _, rfl, rfl⟩ (Nat.le_of_ble_eq_true rfl) (Nat.le_of_ble_eq_true rfl) rfl (f_X10_has_snd a1 a2 (mk x y)) ?_
      refine mS_steps (pc' := 13) (ls' := [.ref 240, .int a1, .int a2]) (st' := [.int (f_X10_has a1 a2)]) (mem' := (mk x y)) 0 rfl ?_
      refine mS_if0 rfl (fun _ => ?_) (fun _ => ?_)
      · refine mS_steps (pc' := 2) (ls' := [.ref 240, .int a1, .int (a2 + (1 : Int32))]) (st' := []) (mem' := (mk x y)) 2 rfl ?_
        exact ih (a2 + (1 : Int32))
      · refine mS_steps (pc' := 21) (ls' := [.ref 240, .int a1, .int a2]) (st' := [.int a2, .ref 241]) (mem' := (mk x y)) 3 rfl ?_
        refine mS_ald (b := 0) (n := 8) (z := (x.1 241 a2.toNatClampNeg)) rfl (by decide) rfl (by decide) rfl (fun _ => ?_)
        refine mS_steps (pc' := 23) (ls' := [.ref 240, .int a1, .int a2]) (st' := [.int (-1 : Int32), .int (x.1 241 a2.toNatClampNeg)]) (mem' := (mk x y)) 1 rfl ?_
        refine mS_ic1 rfl (fun _ => ?_) (fun _ => ?_)
        · refine mS_steps (pc' := 27) (ls' := [.ref 240, .int a1, .int a2]) (st' := [.int a2]) (mem' := (mk x y)) 1 rfl ?_
          exact mS_reti ⟨_, _, _, _, _, rfl, rfl⟩ rfl
        · refine mS_steps (pc' := 2) (ls' := [.ref 240, .int a1, .int (a2 + (1 : Int32))]) (st' := []) (mem' := (mk x y)) 2 rfl ?_
          exact ih (a2 + (1 : Int32))
set_option maxRecDepth 20000 in
set_option maxHeartbeats 2000000 in
theorem f_X9_lowestNew_snd {fm : Value} {L : Nat} {xs : Nat → Int32} (p1 : Int32) (x : mX) (y : mY) : mS fm L xs (fun r : Int32 => (.int r, (mk x y))) pg_X9_lowestNew 0 (m_entry [.ref 240, .int p1] 3) [] (mk x y) ((f_X9_lowestNew p1 x)) := by
  unfold f_X9_lowestNew
  refine mS_steps (pc' := 0) (ls' := [.ref 240, .int p1, mU]) (st' := []) (mem' := (mk x y)) 0 rfl ?_
  refine mS_steps (pc' := 2) (ls' := [.ref 240, .int p1, .int (0 : Int32)]) (st' := []) (mem' := (mk x y)) 2 rfl ?_
  refine f_X9_lowestNew_L2_snd p1 x y mF (0 : Int32)
def f_X9_lowOf_L10 (a2 : Int32) : Nat → Int32 → Int32 → mX → Option Int32
  | 0, _, _, _ => none
  | n + 1, a3, a4, x => (if (8 : Int32) ≤ a4 then (some a3) else (if m_in a2 8 = true then (if (f_X10_has (x.1 229 a2.toNatClampNeg) a4) = 0 then (f_X9_lowOf_L10 a2 n a3 (a4 + (1 : Int32)) x) else (if m_in a2 8 = true then (if a4 = (x.1 242 a2.toNatClampNeg) then (f_X9_lowOf_L10 a2 n a3 (a4 + (1 : Int32)) x) else (if m_in a4 8 = true then (if (x.1 242 a4.toNatClampNeg) = a2 then (if m_in a4 8 = true then (f_X9_lowOf_L10 a2 n (if (x.1 243 a4.toNatClampNeg) < a3 then (x.1 243 a4.toNatClampNeg) else a3) (a4 + (1 : Int32)) x) else none) else (if m_in a4 8 = true then (f_X9_lowOf_L10 a2 n (if (x.1 241 a4.toNatClampNeg) < a3 then (x.1 241 a4.toNatClampNeg) else a3) (a4 + (1 : Int32)) x) else none)) else none)) else none)) else none))
def f_X9_lowOf (p2 : Int32) (x : mX) : Option Int32 := (if m_in p2 8 = true then (f_X9_lowOf_L10 p2 mF (x.1 241 p2.toNatClampNeg) (0 : Int32) x) else none)
set_option maxRecDepth 20000 in
set_option maxHeartbeats 2000000 in
theorem f_X9_lowOf_L10_snd {fm : Value} {L : Nat} {xs : Nat → Int32} (a2 : Int32) (x : mX) (y : mY) : ∀ (n : Nat) (a3 : Int32) (a4 : Int32), mS fm L xs (fun r : Int32 => (.int r, (mk x y))) pg_X9_lowOf 10 [.ref 240, .ref 228, .int a2, .int a3, .int a4] [] (mk x y) (f_X9_lowOf_L10 a2 n a3 a4 x) := by
  intro n
  induction n with
  | zero => intro a3 a4; exact mS_none
  | succ n ih =>
    intro a3 a4
    rw [f_X9_lowOf_L10]
    refine mS_steps (pc' := 14) (ls' := [.ref 240, .ref 228, .int a2, .int a3, .int a4]) (st' := [.int (8 : Int32), .int a4]) (mem' := (mk x y)) 2 rfl ?_
    refine mS_ic3 rfl (fun _ => ?_) (fun _ => ?_)
    · refine mS_steps (pc' := 82) (ls' := [.ref 240, .ref 228, .int a2, .int a3, .int a4]) (st' := [.int a3]) (mem' := (mk x y)) 1 rfl ?_
      exact mS_reti ⟨_, _, _, _, _, rfl, rfl⟩ rfl
    · refine mS_steps (pc' := 22) (ls' := [.ref 240, .ref 228, .int a2, .int a3, .int a4]) (st' := [.int a2, .ref 229]) (mem' := (mk x y)) 3 rfl ?_
      refine mS_ald (b := 0) (n := 8) (z := (x.1 229 a2.toNatClampNeg)) rfl (by decide) rfl (by decide) rfl (fun _ => ?_)
      refine mS_steps (pc' := 25) (ls' := [.ref 240, .ref 228, .int a2, .int a3, .int a4]) (st' := [.int a4, .int (x.1 229 a2.toNatClampNeg)]) (mem' := (mk x y)) 1 rfl ?_
      refine mS_call (q := (f_X10_has (x.1 229 a2.toNatClampNeg) a4)) 57 2 [.int (x.1 229 a2.toNatClampNeg), .int a4] [] rfl rfl rfl ⟨_, _, _, rfl, rfl⟩ (Nat.le_of_ble_eq_true rfl) (Nat.le_of_ble_eq_true rfl) rfl (f_X10_has_snd (x.1 229 a2.toNatClampNeg) a4 (mk x y)) ?_
      refine mS_steps (pc' := 28) (ls' := [.ref 240, .ref 228, .int a2, .int a3, .int a4]) (st' := [.int (f_X10_has (x.1 229 a2.toNatClampNeg) a4)]) (mem' := (mk x y)) 0 rfl ?_
      refine mS_if0 rfl (fun _ => ?_) (fun _ => ?_)
      · refine mS_steps (pc' := 10) (ls' := [.ref 240, .ref 228, .int a2, .int a3, .int (a4 + (1 : Int32))]) (st' := []) (mem' := (mk x y)) 2 rfl ?_
        exact ih a3 (a4 + (1 : Int32))
      · refine mS_steps (pc' := 38) (ls' := [.ref 240, .ref 228, .int a2, .int a3, .int a4]) (st' := [.int a2, .ref 242, .int a4]) (mem' := (mk x y)) 4 rfl ?_
        refine mS_ald (b := 0) (n := 8) (z := (x.1 242 a2.toNatClampNeg)) rfl (by decide) rfl (by decide) rfl (fun _ => ?_)
        refine mS_ic0 rfl (fun _ => ?_) (fun _ => ?_)
        · refine mS_steps (pc' := 10) (ls' := [.ref 240, .ref 228, .int a2, .int a3, .int (a4 + (1 : Int32))]) (st' := []) (mem' := (mk x y)) 2 rfl ?_
          exact ih a3 (a4 + (1 : Int32))
        · refine mS_steps (pc' := 49) (ls' := [.ref 240, .ref 228, .int a2, .int a3, .int a4]) (st' := [.int a4, .ref 242, .int a3]) (mem' := (mk x y)) 4 rfl ?_
          refine mS_ald (b := 0) (n := 8) (z := (x.1 242 a4.toNatClampNeg)) rfl (by decide) rfl (by decide) rfl (fun _ => ?_)
          refine mS_steps (pc' := 51) (ls' := [.ref 240, .ref 228, .int a2, .int a3, .int a4]) (st' := [.int a2, .int (x.1 242 a4.toNatClampNeg), .int a3]) (mem' := (mk x y)) 1 rfl ?_
          refine mS_ic1 rfl (fun _ => ?_) (fun _ => ?_)
          · refine mS_steps (pc' := 60) (ls' := [.ref 240, .ref 228, .int a2, .int a3, .int a4]) (st' := [.int a4, .ref 243, .int a3]) (mem' := (mk x y)) 3 rfl ?_
            refine mS_ald (b := 0) (n := 8) (z := (x.1 243 a4.toNatClampNeg)) rfl (by decide) rfl (by decide) rfl (fun _ => ?_)
            refine mS_steps (pc' := 10) (ls' := [.ref 240, .ref 228, .int a2, .int (if (x.1 243 a4.toNatClampNeg) < a3 then (x.1 243 a4.toNatClampNeg) else a3), .int (a4 + (1 : Int32))]) (st' := []) (mem' := (mk x y)) 5 rfl ?_
            exact ih (if (x.1 243 a4.toNatClampNeg) < a3 then (x.1 243 a4.toNatClampNeg) else a3) (a4 + (1 : Int32))
          · refine mS_steps (pc' := 70) (ls' := [.ref 240, .ref 228, .int a2, .int a3, .int a4]) (st' := [.int a4, .ref 241, .int a3]) (mem' := (mk x y)) 3 rfl ?_
            refine mS_ald (b := 0) (n := 8) (z := (x.1 241 a4.toNatClampNeg)) rfl (by decide) rfl (by decide) rfl (fun _ => ?_)
            refine mS_steps (pc' := 10) (ls' := [.ref 240, .ref 228, .int a2, .int (if (x.1 241 a4.toNatClampNeg) < a3 then (x.1 241 a4.toNatClampNeg) else a3), .int (a4 + (1 : Int32))]) (st' := []) (mem' := (mk x y)) 4 rfl ?_
            exact ih (if (x.1 241 a4.toNatClampNeg) < a3 then (x.1 241 a4.toNatClampNeg) else a3) (a4 + (1 : Int32))
set_option maxRecDepth 20000 in
set_option maxHeartbeats 2000000 in
theorem f_X9_lowOf_snd {fm : Value} {L : Nat} {xs : Nat → Int32} (p2 : Int32) (x : mX) (y : mY) : mS fm L xs (fun r : Int32 => (.int r, (mk x y))) pg_X9_lowOf 0 (m_entry [.ref 240, .ref 228, .int p2] 5) [] (mk x y) ((f_X9_lowOf p2 x)) := by
  unfold f_X9_lowOf
  refine mS_steps (pc' := 0) (ls' := [.ref 240, .ref 228, .int p2, mU, mU]) (st' := []) (mem' := (mk x y)) 0 rfl ?_
  refine mS_steps (pc' := 5) (ls' := [.ref 240, .ref 228, .int p2, mU, mU]) (st' := [.int p2, .ref 241]) (mem' := (mk x y)) 3 rfl ?_
  refine mS_ald (b := 0) (n := 8) (z := (x.1 241 p2.toNatClampNeg)) rfl (by decide) rfl (by decide) rfl (fun _ => ?_)
  refine mS_steps (pc' := 10) (ls' := [.ref 240, .ref 228, .int p2, .int (x.1 241 p2.toNatClampNeg), .int (0 : Int32)]) (st' := []) (mem' := (mk x y)) 3 rfl ?_
  refine f_X9_lowOf_L10_snd p2 x y mF (x.1 241 p2.toNatClampNeg) (0 : Int32)
def f_X9_from_L7 : Nat → Int32 → mX → (mX → Option mX) → Option mX
  | 0, _, _, _ => none
  | n + 1, a3, x, k40 => (if (8 : Int32) ≤ a3 then (k40 x) else (if m_in a3 8 = true then (m_let (m_xs x 241 a3.toNatClampNeg (-1 : Int32)) fun x2 => (if m_in a3 8 = true then (m_let (m_xs x2 242 a3.toNatClampNeg (-1 : Int32)) fun x3 => (if m_in a3 8 = true then (m_let (m_xs x3 243 a3.toNatClampNeg (-1 : Int32)) fun x4 => (f_X9_from_L7 n (a3 + (1 : Int32)) x4 k40)) else none)) else none)) else none))
def f_X9_from_L52 : Nat → Int32 → Int32 → mX → (mX → Option mX) → Option mX
  | 0, _, _, _, _ => none
  | n + 1, a3, a4, x, k107 => (if (16 : Int32) ≤ a4 then (k107 x) else (if a3 < 0 then (k107 x) else (if m_in a3 8 = true then ((f_X9_lowestNew (x.1 229 a3.toNatClampNeg) x).bind fun q7 => (if q7 = (-1 : Int32) then (if m_in a3 8 = true then (f_X9_from_L52 n (x.1 242 a3.toNatClampNeg) (a4 + (1 : Int32)) x k107) else none) else ((f_X9_meet q7 a3 x).bind fun q8 => (f_X9_from_L52 n q7 (a4 + (1 : Int32)) q8 k107)))) else none)))
def f_X9_from_L115 : Nat → Int32 → mX → Option mX
  | 0, _, _ => none
  | n + 1, a4, x => (if a4 < 0 then (some x) else (if m_in a4 8 = true then (if m_in a4 8 = true then ((f_X9_lowOf (x.1 244 a4.toNatClampNeg) x).bind fun q10 => (if m_in (x.1 244 a4.toNatClampNeg) 8 = true then (m_let (m_xs x 243 (x.1 244 a4.toNatClampNeg).toNatClampNeg q10) fun x11 => (f_X9_from_L115 n (a4 + (-1 : Int32)) x11)) else none)) else none) else none))
def f_X9_from (p2 : Int32) (x : mX) : Option mX := (m_let (m_xs x 240 4 (0 : Int32)) fun x1 => (f_X9_from_L7 mF (0 : Int32) x1 (fun x5 => ((f_X9_meet p2 (-2 : Int32) x5).bind fun q6 => (f_X9_from_L52 mF p2 (0 : Int32) q6 (fun x9 => (f_X9_from_L115 mF ((x9.1 240 4) - (1 : Int32)) x9)))))))
set_option maxRecDepth 20000 in
set_option maxHeartbeats 2000000 in
theorem f_X9_from_L7_snd {fm : Value} {L : Nat} {xs : Nat → Int32} (a2 : Int32) (y : mY) (k40 : mX → Option mX) (hk40 : ∀ (z0 : mX), mS fm L xs (fun r : mX => (mU, mk r y)) pg_X9_from 40 [.ref 240, .ref 228, .int a2, mU, mU, mU] [] (mk z0 y) (k40 z0)) : ∀ (n : Nat) (a3 : Int32) (x : mX), mS fm L xs (fun r : mX => (mU, mk r y)) pg_X9_from 7 [.ref 240, .ref 228, .int a2, .int a3, mU, mU] [] (mk x y) (f_X9_from_L7 n a3 x k40) := by
  intro n
  induction n with
  | zero => intro a3 x; exact mS_none
  | succ n ih =>
    intro a3 x
    rw [f_X9_from_L7]
    refine mS_steps (pc' := 10) (ls' := [.ref 240, .ref 228, .int a2, .int a3, mU, mU]) (st' := [.int (8 : Int32), .int a3]) (mem' := (mk x y)) 2 rfl ?_
    refine mS_ic3 rfl (fun _ => ?_) (fun _ => ?_)
    · refine mS_forget [.ref 240, .ref 228, .int a2, mU, mU, mU] ⟨Or.inr rfl, Or.inr rfl, Or.inr rfl, Or.inl rfl, Or.inl rfl, Or.inl rfl, trivial⟩ ?_
      exact hk40 x
    · refine mS_steps (pc' := 19) (ls' := [.ref 240, .ref 228, .int a2, .int a3, mU, mU]) (st' := [.int (-1 : Int32), .int a3, .ref 241]) (mem' := (mk x y)) 4 rfl ?_
      refine mS_ast0x (n := 8) rfl rfl (by decide) (fun _ => ?_)
      refine mS_letx (fun x2 => ?_)
      refine mS_steps (pc' := 26) (ls' := [.ref 240, .ref 228, .int a2, .int a3, mU, mU]) (st' := [.int (-1 : Int32), .int a3, .ref 242]) (mem' := (mk x2 y)) 4 rfl ?_
      refine mS_ast0x (n := 8) rfl rfl (by decide) (fun _ => ?_)
      refine mS_letx (fun x3 => ?_)
      refine mS_steps (pc' := 33) (ls' := [.ref 240, .ref 228, .int a2, .int a3, mU, mU]) (st' := [.int (-1 : Int32), .int a3, .ref 243]) (mem' := (mk x3 y)) 4 rfl ?_
      refine mS_ast0x (n := 8) rfl rfl (by decide) (fun _ => ?_)
      refine mS_letx (fun x4 => ?_)
      refine mS_steps (pc' := 7) (ls' := [.ref 240, .ref 228, .int a2, .int (a3 + (1 : Int32)), mU, mU]) (st' := []) (mem' := (mk x4 y)) 2 rfl ?_
      exact ih (a3 + (1 : Int32)) x4
set_option maxRecDepth 20000 in
set_option maxHeartbeats 2000000 in
theorem f_X9_from_L52_snd {fm : Value} {L : Nat} {xs : Nat → Int32} (y : mY) (k107 : mX → Option mX) (hk107 : ∀ (z0 : mX), mS fm L xs (fun r : mX => (mU, mk r y)) pg_X9_from 107 [.ref 240, .ref 228, mU, mU, mU, mU] [] (mk z0 y) (k107 z0)) : ∀ (n : Nat) (a3 : Int32) (a4 : Int32) (x : mX), mS fm L xs (fun r : mX => (mU, mk r y)) pg_X9_from 52 [.ref 240, .ref 228, mU, .int a3, .int a4, mU] [] (mk x y) (f_X9_from_L52 n a3 a4 x k107) := by
  intro n
  induction n with
  | zero => intro a3 a4 x; exact mS_none
  | succ n ih =>
    intro a3 a4 x
    rw [f_X9_from_L52]
    refine mS_steps (pc' := 56) (ls' := [.ref 240, .ref 228, mU, .int a3, .int a4, mU]) (st' := [.int (16 : Int32), .int a4]) (mem' := (mk x y)) 2 rfl ?_
    refine mS_ic3 rfl (fun _ => ?_) (fun _ => ?_)
    · refine mS_forget [.ref 240, .ref 228, mU, mU, mU, mU] ⟨Or.inr rfl, Or.inr rfl, Or.inl rfl, Or.inl rfl, Or.inl rfl, Or.inl rfl, trivial⟩ ?_
      exact hk107 x
    · refine mS_steps (pc' := 60) (ls' := [.ref 240, .ref 228, mU, .int a3, .int a4, mU]) (st' := [.int a3]) (mem' := (mk x y)) 1 rfl ?_
      refine mS_if2 rfl (fun _ => ?_) (fun _ => ?_)
      · refine mS_forget [.ref 240, .ref 228, mU, mU, mU, mU] ⟨Or.inr rfl, Or.inr rfl, Or.inl rfl, Or.inl rfl, Or.inl rfl, Or.inl rfl, trivial⟩ ?_
        exact hk107 x
      · refine mS_steps (pc' := 69) (ls' := [.ref 240, .ref 228, mU, .int a3, .int a4, mU]) (st' := [.int a3, .ref 229, .ref 240]) (mem' := (mk x y)) 4 rfl ?_
        refine mS_ald (b := 0) (n := 8) (z := (x.1 229 a3.toNatClampNeg)) rfl (by decide) rfl (by decide) rfl (fun _ => ?_)
        refine mS_bind (fun q7 hq7 => mS_call 207 2 [.ref 240, .int (x.1 229 a3.toNatClampNeg)] [] rfl rfl rfl ⟨_, _, _, rfl, rfl⟩ (Nat.le_of_ble_eq_true rfl) (Nat.le_of_ble_eq_true rfl) hq7 (f_X9_lowestNew_snd (x.1 229 a3.toNatClampNeg) x y) ?_)
        refine mS_steps (pc' := 78) (ls' := [.ref 240, .ref 228, mU, .int a3, .int a4, .int q7]) (st' := [.int (-1 : Int32), .int q7]) (mem' := (mk x y)) 3 rfl ?_
        refine mS_ic0 rfl (fun _ => ?_) (fun _ => ?_)
        · refine mS_steps (pc' := 99) (ls' := [.ref 240, .ref 228, mU, .int a3, .int a4, .int q7]) (st' := [.int a3, .ref 242]) (mem' := (mk x y)) 3 rfl ?_
          refine mS_ald (b := 0) (n := 8) (z := (x.1 242 a3.toNatClampNeg)) rfl (by decide) rfl (by decide) rfl (fun _ => ?_)
          refine mS_steps (pc' := 52) (ls' := [.ref 240, .ref 228, mU, .int (x.1 242 a3.toNatClampNeg), .int (a4 + (1 : Int32)), .int q7]) (st' := []) (mem' := (mk x y)) 3 rfl ?_
          refine mS_forget [.ref 240, .ref 228, mU, .int (x.1 242 a3.toNatClampNeg), .int (a4 + (1 : Int32)), mU] ⟨Or.inr rfl, Or.inr rfl, Or.inl rfl, Or.inr rfl, Or.inr rfl, Or.inl rfl, trivial⟩ ?_
          exact ih (x.1 242 a3.toNatClampNeg) (a4 + (1 : Int32)) x
        · refine mS_steps (pc' := 85) (ls' := [.ref 240, .ref 228, mU, .int a3, .int a4, .int q7]) (st' := [.int a3, .int q7, .ref 240]) (mem' := (mk x y)) 3 rfl ?_
          refine mS_bind (fun q8 hq8 => mS_call 206 3 [.ref 240, .int q7, .int a3] [] rfl rfl rfl ⟨_, _, _, rfl, rfl⟩ (Nat.le_of_ble_eq_true rfl) (Nat.le_of_ble_eq_true rfl) hq8 (f_X9_meet_snd q7 a3 x y) ?_)
          refine mS_steps (pc' := 52) (ls' := [.ref 240, .ref 228, mU, .int q7, .int (a4 + (1 : Int32)), .int q7]) (st' := []) (mem' := (mk q8 y)) 5 rfl ?_
          refine mS_forget [.ref 240, .ref 228, mU, .int q7, .int (a4 + (1 : Int32)), mU] ⟨Or.inr rfl, Or.inr rfl, Or.inl rfl, Or.inr rfl, Or.inr rfl, Or.inl rfl, trivial⟩ ?_
          exact ih q7 (a4 + (1 : Int32)) q8
set_option maxRecDepth 20000 in
set_option maxHeartbeats 2000000 in
theorem f_X9_from_L115_snd {fm : Value} {L : Nat} {xs : Nat → Int32} (y : mY) : ∀ (n : Nat) (a4 : Int32) (x : mX), mS fm L xs (fun r : mX => (mU, mk r y)) pg_X9_from 115 [.ref 240, .ref 228, mU, mU, .int a4, mU] [] (mk x y) (f_X9_from_L115 n a4 x) := by
  intro n
  induction n with
  | zero => intro a4 x; exact mS_none
  | succ n ih =>
    intro a4 x
    rw [f_X9_from_L115]
    refine mS_steps (pc' := 117) (ls' := [.ref 240, .ref 228, mU, mU, .int a4, mU]) (st' := [.int a4]) (mem' := (mk x y)) 1 rfl ?_
    refine mS_if2 rfl (fun _ => ?_) (fun _ => ?_)
    · exact mS_retv ⟨_, _, _, _, _, rfl⟩ rfl
    · refine mS_steps (pc' := 130) (ls' := [.ref 240, .ref 228, mU, mU, .int a4, mU]) (st' := [.int a4, .ref 244, .ref 243]) (mem' := (mk x y)) 5 rfl ?_
      refine mS_ald (b := 0) (n := 8) (z := (x.1 244 a4.toNatClampNeg)) rfl (by decide) rfl (by decide) rfl (fun _ => ?_)
      refine mS_steps (pc' := 139) (ls' := [.ref 240, .ref 228, mU, mU, .int a4, mU]) (st' := [.int a4, .ref 244, .ref 228, .ref 240, .int (x.1 244 a4.toNatClampNeg), .ref 243]) (mem' := (mk x y)) 5 rfl ?_
      refine mS_ald (b := 0) (n := 8) (z := (x.1 244 a4.toNatClampNeg)) rfl (by decide) rfl (by decide) rfl (fun _ => ?_)
      refine mS_bind (fun q10 hq10 => mS_call 208 3 [.ref 240, .ref 228, .int (x.1 244 a4.toNatClampNeg)] [.int (x.1 244 a4.toNatClampNeg), .ref 243] rfl rfl rfl ⟨_, _, _, rfl, rfl⟩ (Nat.le_of_ble_eq_true rfl) (Nat.le_of_ble_eq_true rfl) hq10 (f_X9_lowOf_snd (x.1 244 a4.toNatClampNeg) x y) ?_)
      refine mS_steps (pc' := 143) (ls' := [.ref 240, .ref 228, mU, mU, .int a4, mU]) (st' := [.int q10, .int (x.1 244 a4.toNatClampNeg), .ref 243]) (mem' := (mk x y)) 0 rfl ?_
      refine mS_ast0x (n := 8) rfl rfl (by decide) (fun _ => ?_)
      refine mS_letx (fun x11 => ?_)
      refine mS_steps (pc' := 115) (ls' := [.ref 240, .ref 228, mU, mU, .int (a4 + (-1 : Int32)), mU]) (st' := []) (mem' := (mk x11 y)) 2 rfl ?_
      exact ih (a4 + (-1 : Int32)) x11
set_option maxRecDepth 20000 in
set_option maxHeartbeats 2000000 in
theorem f_X9_from_snd {fm : Value} {L : Nat} {xs : Nat → Int32} (p2 : Int32) (x : mX) (y : mY) : mS fm L xs (fun r : mX => (mU, mk r y)) pg_X9_from 0 (m_entry [.ref 240, .ref 228, .int p2] 6) [] (mk x y) ((f_X9_from p2 x)) := by
  unfold f_X9_from
  refine mS_steps (pc' := 0) (ls' := [.ref 240, .ref 228, .int p2, mU, mU, mU]) (st' := []) (mem' := (mk x y)) 0 rfl ?_
  refine mS_steps (pc' := 2) (ls' := [.ref 240, .ref 228, .int p2, mU, mU, mU]) (st' := [.int (0 : Int32), .ref 240]) (mem' := (mk x y)) 2 rfl ?_
  refine mS_putx rfl rfl (by decide) rfl ?_
  refine mS_letx (fun x1 => ?_)
  refine mS_steps (pc' := 7) (ls' := [.ref 240, .ref 228, .int p2, .int (0 : Int32), mU, mU]) (st' := []) (mem' := (mk x1 y)) 2 rfl ?_
  refine f_X9_from_L7_snd p2 y _ ?_ mF (0 : Int32) x1
  · intro x5
    refine mS_steps (pc' := 44) (ls' := [.ref 240, .ref 228, .int p2, mU, mU, mU]) (st' := [.int (-2 : Int32), .int p2, .ref 240]) (mem' := (mk x5 y)) 3 rfl ?_
    refine mS_bind (fun q6 hq6 => mS_call 206 3 [.ref 240, .int p2, .int (-2 : Int32)] [] rfl rfl rfl ⟨_, _, _, rfl, rfl⟩ (Nat.le_of_ble_eq_true rfl) (Nat.le_of_ble_eq_true rfl) hq6 (f_X9_meet_snd p2 (-2 : Int32) x5 y) ?_)
    refine mS_steps (pc' := 52) (ls' := [.ref 240, .ref 228, .int p2, .int p2, .int (0 : Int32), mU]) (st' := []) (mem' := (mk q6 y)) 4 rfl ?_
    refine mS_forget [.ref 240, .ref 228, mU, .int p2, .int (0 : Int32), mU] ⟨Or.inr rfl, Or.inr rfl, Or.inl rfl, Or.inr rfl, Or.inr rfl, Or.inl rfl, trivial⟩ ?_
    refine f_X9_from_L52_snd y _ ?_ mF p2 (0 : Int32) q6
    · intro x9
      refine mS_steps (pc' := 115) (ls' := [.ref 240, .ref 228, mU, mU, .int ((x9.1 240 4) - (1 : Int32)), mU]) (st' := []) (mem' := (mk x9 y)) 5 rfl ?_
      refine f_X9_from_L115_snd y mF ((x9.1 240 4) - (1 : Int32)) x9
def f_X10_search (p1 : Int32) (p2 : Int32) (p3 : Int32) (x : mX) : Option (Int32 × mX) := (if (f_X10_isPost p1 x) = 0 then (some ((-1 : Int32), x)) else (if (f_X10_isPost p2 x) = 0 then (some ((-1 : Int32), x)) else ((f_X10_learntNet x).bind fun q1 => (if q1.1 = 228 then (if m_in p1 8 = true then (if (f_X10_has (q1.2.1 230 p1.toNatClampNeg) p2) = 0 then (some ((-1 : Int32), q1.2)) else ((f_X9_from p1 q1.2).bind fun q2 => (if p3 = (0 : Int32) then (if m_in p2 8 = true then (some ((q2.1 241 p2.toNatClampNeg), q2)) else none) else (if p3 = (1 : Int32) then (if m_in p2 8 = true then (some ((q2.1 242 p2.toNatClampNeg), q2)) else none) else (if p3 = (2 : Int32) then (if m_in p2 8 = true then (some ((q2.1 243 p2.toNatClampNeg), q2)) else none) else (some ((-1 : Int32), q2))))))) else none) else none))))
set_option maxRecDepth 20000 in
set_option maxHeartbeats 2000000 in
theorem f_X10_search_snd {fm : Value} {L : Nat} {xs : Nat → Int32} (p1 : Int32) (p2 : Int32) (p3 : Int32) (x : mX) (y : mY) : mS fm L xs (fun r : (Int32 × mX) => (.int r.1, mk r.2 y)) pg_X10_search 0 (m_entry [.ref 0, .int p1, .int p2, .int p3] 4) [] (mk x y) ((f_X10_search p1 p2 p3 x)) := by
  unfold f_X10_search
  refine mS_steps (pc' := 0) (ls' := [.ref 0, .int p1, .int p2, .int p3]) (st' := []) (mem' := (mk x y)) 0 rfl ?_
  refine mS_steps (pc' := 2) (ls' := [.ref 0, .int p1, .int p2, .int p3]) (st' := [.int p1, .ref 0]) (mem' := (mk x y)) 2 rfl ?_
  refine mS_call (q := (f_X10_isPost p1 x)) 102 2 [.ref 0, .int p1] [] rfl rfl rfl ⟨_, _, _, rfl, rfl⟩ (Nat.le_of_ble_eq_true rfl) (Nat.le_of_ble_eq_true rfl) rfl (f_X10_isPost_snd p1 x y) ?_
  refine mS_steps (pc' := 5) (ls' := [.ref 0, .int p1, .int p2, .int p3]) (st' := [.int (f_X10_isPost p1 x)]) (mem' := (mk x y)) 0 rfl ?_
  refine mS_if0 rfl (fun _ => ?_) (fun _ => ?_)
  · refine mS_steps (pc' := 33) (ls' := [.ref 0, .int p1, .int p2, .int p3]) (st' := [.int (-1 : Int32)]) (mem' := (mk x y)) 1 rfl ?_
    exact mS_reti ⟨_, _, _, _, _, rfl, rfl⟩ rfl
  · refine mS_steps (pc' := 10) (ls' := [.ref 0, .int p1, .int p2, .int p3]) (st' := [.int p2, .ref 0]) (mem' := (mk x y)) 2 rfl ?_
    refine mS_call (q := (f_X10_isPost p2 x)) 102 2 [.ref 0, .int p2] [] rfl rfl rfl ⟨_, _, _, rfl, rfl⟩ (Nat.le_of_ble_eq_true rfl) (Nat.le_of_ble_eq_true rfl) rfl (f_X10_isPost_snd p2 x y) ?_
    refine mS_steps (pc' := 13) (ls' := [.ref 0, .int p1, .int p2, .int p3]) (st' := [.int (f_X10_isPost p2 x)]) (mem' := (mk x y)) 0 rfl ?_
    refine mS_if0 rfl (fun _ => ?_) (fun _ => ?_)
    · refine mS_steps (pc' := 33) (ls' := [.ref 0, .int p1, .int p2, .int p3]) (st' := [.int (-1 : Int32)]) (mem' := (mk x y)) 1 rfl ?_
      exact mS_reti ⟨_, _, _, _, _, rfl, rfl⟩ rfl
    · refine mS_steps (pc' := 17) (ls' := [.ref 0, .int p1, .int p2, .int p3]) (st' := [.ref 0]) (mem' := (mk x y)) 1 rfl ?_
      refine mS_bind (fun q1 hq1 => mS_call 119 1 [.ref 0] [] rfl rfl rfl ⟨_, _, _, rfl, rfl⟩ (Nat.le_of_ble_eq_true rfl) (Nat.le_of_ble_eq_true rfl) hq1 (f_X10_learntNet_snd  x y) ?_)
      refine mS_steps (pc' := 20) (ls' := [.ref 0, .int p1, .int p2, .int p3]) (st' := .ref q1.1 :: []) (mem' := (mk q1.2 y)) 0 rfl ?_
      refine mS_guard (fun hrq1 => ?_)
      rw [hrq1]
      refine mS_steps (pc' := 24) (ls' := [.ref 0, .int p1, .int p2, .int p3]) (st' := [.int p1, .ref 230]) (mem' := (mk q1.2 y)) 2 rfl ?_
      refine mS_ald (b := 0) (n := 8) (z := (q1.2.1 230 p1.toNatClampNeg)) rfl (by decide) rfl (by decide) rfl (fun _ => ?_)
      refine mS_steps (pc' := 26) (ls' := [.ref 0, .int p1, .int p2, .int p3]) (st' := [.int p2, .int (q1.2.1 230 p1.toNatClampNeg)]) (mem' := (mk q1.2 y)) 1 rfl ?_
      refine mS_call (q := (f_X10_has (q1.2.1 230 p1.toNatClampNeg) p2)) 57 2 [.int (q1.2.1 230 p1.toNatClampNeg), .int p2] [] rfl rfl rfl ⟨_, _, _, rfl, rfl⟩ (Nat.le_of_ble_eq_true rfl) (Nat.le_of_ble_eq_true rfl) rfl (f_X10_has_snd (q1.2.1 230 p1.toNatClampNeg) p2 (mk q1.2 y)) ?_
      refine mS_steps (pc' := 29) (ls' := [.ref 0, .int p1, .int p2, .int p3]) (st' := [.int (f_X10_has (q1.2.1 230 p1.toNatClampNeg) p2)]) (mem' := (mk q1.2 y)) 0 rfl ?_
      refine mS_if1 rfl (fun _ => ?_) (fun _ => ?_)
      · refine mS_steps (pc' := 33) (ls' := [.ref 0, .int p1, .int p2, .int p3]) (st' := [.int (-1 : Int32)]) (mem' := (mk q1.2 y)) 1 rfl ?_
        exact mS_reti ⟨_, _, _, _, _, rfl, rfl⟩ rfl
      · refine mS_steps (pc' := 43) (ls' := [.ref 0, .int p1, .int p2, .int p3]) (st' := [.int p1, .ref 228, .ref 240]) (mem' := (mk q1.2 y)) 5 rfl ?_
        refine mS_bind (fun q2 hq2 => mS_call 209 3 [.ref 240, .ref 228, .int p1] [] rfl rfl rfl ⟨_, _, _, rfl, rfl⟩ (Nat.le_of_ble_eq_true rfl) (Nat.le_of_ble_eq_true rfl) hq2 (f_X9_from_snd p1 q1.2 y) ?_)
        refine mS_steps (pc' := 47) (ls' := [.ref 0, .int p1, .int p2, .int p3]) (st' := [.int p3]) (mem' := (mk q2 y)) 1 rfl ?_
        refine mS_ite (fun hc => ?_) (fun hn3 => ?_)
        · refine mS_tsw (i := 0) (t := 72) rfl (by rw [hc]; decide) rfl ?_
          refine mS_steps (pc' := 80) (ls' := [.ref 0, .int p1, .int p2, .int p3]) (st' := [.int p2, .ref 241]) (mem' := (mk q2 y)) 4 rfl ?_
          refine mS_ald (b := 0) (n := 8) (z := (q2.1 241 p2.toNatClampNeg)) rfl (by decide) rfl (by decide) rfl (fun _ => ?_)
          exact mS_reti ⟨_, _, _, _, _, rfl, rfl⟩ rfl
        refine mS_ite (fun hc => ?_) (fun hn4 => ?_)
        · refine mS_tsw (i := 1) (t := 82) rfl (by rw [hc]; decide) rfl ?_
          refine mS_steps (pc' := 90) (ls' := [.ref 0, .int p1, .int p2, .int p3]) (st' := [.int p2, .ref 242]) (mem' := (mk q2 y)) 4 rfl ?_
          refine mS_ald (b := 0) (n := 8) (z := (q2.1 242 p2.toNatClampNeg)) rfl (by decide) rfl (by decide) rfl (fun _ => ?_)
          exact mS_reti ⟨_, _, _, _, _, rfl, rfl⟩ rfl
        refine mS_ite (fun hc => ?_) (fun hn5 => ?_)
        · refine mS_tsw (i := 2) (t := 92) rfl (by rw [hc]; decide) rfl ?_
          refine mS_steps (pc' := 100) (ls' := [.ref 0, .int p1, .int p2, .int p3]) (st' := [.int p2, .ref 243]) (mem' := (mk q2 y)) 4 rfl ?_
          refine mS_ald (b := 0) (n := 8) (z := (q2.1 243 p2.toNatClampNeg)) rfl (by decide) rfl (by decide) rfl (fun _ => ?_)
          exact mS_reti ⟨_, _, _, _, _, rfl, rfl⟩ rfl
        refine mS_tswd rfl (fun i hi => ?_) ?_
        · match i, hi with
          | 0, _ => exact Or.inl (m_nlit hn3 (by decide))
          | 1, _ => exact Or.inl (m_nlit hn4 (by decide))
          | 2, _ => exact Or.inl (m_nlit hn5 (by decide))
          | n + 3, hi => exact absurd hi (by simp)
        refine mS_steps (pc' := 103) (ls' := [.ref 0, .int p1, .int p2, .int p3]) (st' := [.int (-1 : Int32)]) (mem' := (mk q2 y)) 1 rfl ?_
        exact mS_reti ⟨_, _, _, _, _, rfl, rfl⟩ rfl
def f_X11_searches_L8 : Nat → Int32 → mY → (mY → Option mY) → Option mY
  | 0, _, _, _ => none
  | n + 1, a2, y, k27 => (if (8 : Int32) ≤ a2 then (k27 y) else (if m_in a2 8 = true then (m_let (m_ys y 302 a2.toNatClampNeg (-1 : Int32)) fun y2 => (f_X11_searches_L8 n (a2 + (1 : Int32)) y2 k27)) else none))
def f_X11_searches_L59 (a3 : Int32) : Nat → Int32 → Int32 → mY → (Int32 → Option mY) → Option mY
  | 0, _, _, _, _ => none
  | n + 1, a4, a5, y, k101 => (if a5 < 0 then (k101 a4) else (if m_in ((8 : Int32) + a3) 24 = true then (if (f_X11_has (y.1 293 ((8 : Int32) + a3).toNatClampNeg) a5) = 0 then (f_X11_searches_L59 a3 n a4 (a5 + (-1 : Int32)) y k101) else (if m_in a5 8 = true then (if 0 ≤ (y.1 302 a5.toNatClampNeg) then (f_X11_searches_L59 a3 n a4 (a5 + (-1 : Int32)) y k101) else (f_X11_searches_L59 a3 n a5 (a5 + (-1 : Int32)) y k101)) else none)) else none))
def f_X11_searches_L142 (a3 : Int32) : Nat → Int32 → Int32 → mY → (Int32 → Option mY) → Option mY
  | 0, _, _, _, _ => none
  | n + 1, a5, a6, y, k239 => (if (8 : Int32) ≤ a6 then (k239 a5) else (if m_in ((8 : Int32) + a3) 24 = true then (if (f_X11_has (y.1 293 ((8 : Int32) + a3).toNatClampNeg) a6) = 0 then (f_X11_searches_L142 a3 n a5 (a6 + (1 : Int32)) y k239) else (if m_in a3 8 = true then (if a6 = (y.1 303 a3.toNatClampNeg) then (f_X11_searches_L142 a3 n a5 (a6 + (1 : Int32)) y k239) else (if m_in a6 8 = true then (m_jn (fun v8 => (if m_in a6 8 = true then (if (y.1 303 a6.toNatClampNeg) = a3 then (if m_in a6 8 = true then (if v8 ≤ (y.1 304 a6.toNatClampNeg) then (f_X11_searches_L142 a3 n v8 (a6 + (1 : Int32)) y k239) else (if m_in a6 8 = true then (f_X11_searches_L142 a3 n (y.1 304 a6.toNatClampNeg) (a6 + (1 : Int32)) y k239) else none)) else none) else (f_X11_searches_L142 a3 n v8 (a6 + (1 : Int32)) y k239)) else none)) (fun j7 => if a5 ≤ (y.1 302 a6.toNatClampNeg) then (j7 a5) else (if m_in a6 8 = true then (j7 (y.1 302 a6.toNatClampNeg)) else none))) else none)) else none)) else none))
def f_X11_searches_L46 : Nat → Int32 → Int32 → mY → Option mY
  | 0, _, _, _ => none
  | n + 1, a2, a3, y => (if a3 = (-2 : Int32) then (some y) else (f_X11_searches_L59 a3 mF (-1 : Int32) (7 : Int32) y (fun v6 => (if v6 < 0 then (if m_in a3 8 = true then (f_X11_searches_L142 a3 mF (y.1 302 a3.toNatClampNeg) (0 : Int32) y (fun v9 => (if m_in a3 8 = true then (m_let (m_ys y 304 a3.toNatClampNeg v9) fun y10 => (if m_in a3 8 = true then (f_X11_searches_L46 n a2 (y10.1 303 a3.toNatClampNeg) y10) else none)) else none))) else none) else (if m_in v6 8 = true then (m_let (m_ys y 302 v6.toNatClampNeg a2) fun y11 => (if m_in v6 8 = true then (m_let (m_ys y11 303 v6.toNatClampNeg a3) fun y12 => (f_X11_searches_L46 n (a2 + (1 : Int32)) v6 y12)) else none)) else none)))))
def f_X11_searches (p1 : Int32) (y : mY) : Option mY := ((f_X11_laysNet (1 : Int32) y).bind fun q1 => (f_X11_searches_L8 mF (0 : Int32) q1.2 (fun y3 => (if m_in p1 8 = true then (m_let (m_ys y3 302 p1.toNatClampNeg (0 : Int32)) fun y4 => (if m_in p1 8 = true then (m_let (m_ys y4 303 p1.toNatClampNeg (-2 : Int32)) fun y5 => (f_X11_searches_L46 mF (1 : Int32) p1 y5)) else none)) else none))))
set_option maxRecDepth 20000 in
set_option maxHeartbeats 2000000 in
theorem f_X11_searches_L8_snd {fm : Value} {L : Nat} {xs : Nat → Int32} (a1 : Int32) (x : mX) (k27 : mY → Option mY) (hk27 : ∀ (z0 : mY), mS fm L xs (fun r : mY => (mU, mk x r)) pg_X11_searches 27 [.ref 279, .int a1, mU, mU, mU, mU, mU] [] (mk x z0) (k27 z0)) : ∀ (n : Nat) (a2 : Int32) (y : mY), mS fm L xs (fun r : mY => (mU, mk x r)) pg_X11_searches 8 [.ref 279, .int a1, .int a2, mU, mU, mU, mU] [] (mk x y) (f_X11_searches_L8 n a2 y k27) := by
  intro n
  induction n with
  | zero => intro a2 y; exact mS_none
  | succ n ih =>
    intro a2 y
    rw [f_X11_searches_L8]
    refine mS_steps (pc' := 11) (ls' := [.ref 279, .int a1, .int a2, mU, mU, mU, mU]) (st' := [.int (8 : Int32), .int a2]) (mem' := (mk x y)) 2 rfl ?_
    refine mS_ic3 rfl (fun _ => ?_) (fun _ => ?_)
    · refine mS_forget [.ref 279, .int a1, mU, mU, mU, mU, mU] ⟨Or.inr rfl, Or.inr rfl, Or.inl rfl, Or.inl rfl, Or.inl rfl, Or.inl rfl, Or.inl rfl, trivial⟩ ?_
      exact hk27 y
    · refine mS_steps (pc' := 20) (ls' := [.ref 279, .int a1, .int a2, mU, mU, mU, mU]) (st' := [.int (-1 : Int32), .int a2, .ref 302]) (mem' := (mk x y)) 4 rfl ?_
      refine mS_ast0y (n := 8) rfl rfl (by decide) (fun _ => ?_)
      refine mS_lety (fun y2 => ?_)
      refine mS_steps (pc' := 8) (ls' := [.ref 279, .int a1, .int (a2 + (1 : Int32)), mU, mU, mU, mU]) (st' := []) (mem' := (mk x y2)) 2 rfl ?_
      exact ih (a2 + (1 : Int32)) y2
set_option maxRecDepth 20000 in
set_option maxHeartbeats 2000000 in
theorem f_X11_searches_L59_snd {fm : Value} {L : Nat} {xs : Nat → Int32} (a2 : Int32) (a3 : Int32) (y : mY) (x : mX) (k101 : Int32 → Option mY) (hk101 : ∀ (b4 : Int32), mS fm L xs (fun r : mY => (mU, mk x r)) pg_X11_searches 101 [.ref 279, mU, .int a2, .int a3, .int b4, mU, mU] [] (mk x y) (k101 b4)) : ∀ (n : Nat) (a4 : Int32) (a5 : Int32), mS fm L xs (fun r : mY => (mU, mk x r)) pg_X11_searches 59 [.ref 279, mU, .int a2, .int a3, .int a4, .int a5, mU] [] (mk x y) (f_X11_searches_L59 a3 n a4 a5 y k101) := by
  intro n
  induction n with
  | zero => intro a4 a5; exact mS_none
  | succ n ih =>
    intro a4 a5
    rw [f_X11_searches_L59]
    refine mS_steps (pc' := 61) (ls' := [.ref 279, mU, .int a2, .int a3, .int a4, .int a5, mU]) (st' := [.int a5]) (mem' := (mk x y)) 1 rfl ?_
    refine mS_if2 rfl (fun _ => ?_) (fun _ => ?_)
    · refine mS_forget [.ref 279, mU, .int a2, .int a3, .int a4, mU, mU] ⟨Or.inr rfl, Or.inl rfl, Or.inr rfl, Or.inr rfl, Or.inr rfl, Or.inl rfl, Or.inl rfl, trivial⟩ ?_
      exact hk101 a4
    · refine mS_steps (pc' := 72) (ls' := [.ref 279, mU, .int a2, .int a3, .int a4, .int a5, mU]) (st' := [.int ((8 : Int32) + a3), .ref 293]) (mem' := (mk x y)) 5 rfl ?_
      refine mS_ald (b := 0) (n := 24) (z := (y.1 293 ((8 : Int32) + a3).toNatClampNeg)) rfl (by decide) rfl (by decide) rfl (fun _ => ?_)
      refine mS_steps (pc' := 75) (ls' := [.ref 279, mU, .int a2, .int a3, .int a4, .int a5, mU]) (st' := [.int a5, .int (y.1 293 ((8 : Int32) + a3).toNatClampNeg)]) (mem' := (mk x y)) 1 rfl ?_
      refine mS_call (q := (f_X11_has (y.1 293 ((8 : Int32) + a3).toNatClampNeg) a5)) 87 2 [.int (y.1 293 ((8 : Int32) + a3).toNatClampNeg), .int a5] [] rfl rfl rfl ⟨_, _, _, rfl, rfl⟩ (Nat.le_of_ble_eq_true rfl) (Nat.le_of_ble_eq_true rfl) rfl (f_X11_has_snd (y.1 293 ((8 : Int32) + a3).toNatClampNeg) a5 (mk x y)) ?_
      refine mS_steps (pc' := 78) (ls' := [.ref 279, mU, .int a2, .int a3, .int a4, .int a5, mU]) (st' := [.int (f_X11_has (y.1 293 ((8 : Int32) + a3).toNatClampNeg) a5)]) (mem' := (mk x y)) 0 rfl ?_
      refine mS_if0 rfl (fun _ => ?_) (fun _ => ?_)
      · refine mS_steps (pc' := 59) (ls' := [.ref 279, mU, .int a2, .int a3, .int a4, .int (a5 + (-1 : Int32)), mU]) (st' := []) (mem' := (mk x y)) 2 rfl ?_
        exact ih a4 (a5 + (-1 : Int32))
      · refine mS_steps (pc' := 87) (ls' := [.ref 279, mU, .int a2, .int a3, .int a4, .int a5, mU]) (st' := [.int a5, .ref 302]) (mem' := (mk x y)) 3 rfl ?_
        refine mS_ald (b := 0) (n := 8) (z := (y.1 302 a5.toNatClampNeg)) rfl (by decide) rfl (by decide) rfl (fun _ => ?_)
        refine mS_if3 rfl (fun _ => ?_) (fun _ => ?_)
        · refine mS_steps (pc' := 59) (ls' := [.ref 279, mU, .int a2, .int a3, .int a4, .int (a5 + (-1 : Int32)), mU]) (st' := []) (mem' := (mk x y)) 2 rfl ?_
          exact ih a4 (a5 + (-1 : Int32))
        · refine mS_steps (pc' := 59) (ls' := [.ref 279, mU, .int a2, .int a3, .int a5, .int (a5 + (-1 : Int32)), mU]) (st' := []) (mem' := (mk x y)) 4 rfl ?_
          exact ih a5 (a5 + (-1 : Int32))
set_option maxRecDepth 20000 in
set_option maxHeartbeats 2000000 in
theorem f_X11_searches_L142_snd {fm : Value} {L : Nat} {xs : Nat → Int32} (a2 : Int32) (a3 : Int32) (y : mY) (x : mX) (k239 : Int32 → Option mY) (hk239 : ∀ (b5 : Int32), mS fm L xs (fun r : mY => (mU, mk x r)) pg_X11_searches 239 [.ref 279, mU, .int a2, .int a3, mU, .int b5, mU] [] (mk x y) (k239 b5)) : ∀ (n : Nat) (a5 : Int32) (a6 : Int32), mS fm L xs (fun r : mY => (mU, mk x r)) pg_X11_searches 142 [.ref 279, mU, .int a2, .int a3, mU, .int a5, .int a6] [] (mk x y) (f_X11_searches_L142 a3 n a5 a6 y k239) := by
  intro n
  induction n with
  | zero => intro a5 a6; exact mS_none
  | succ n ih =>
    intro a5 a6
    rw [f_X11_searches_L142]
    refine mS_steps (pc' := 146) (ls' := [.ref 279, mU, .int a2, .int a3, mU, .int a5, .int a6]) (st' := [.int (8 : Int32), .int a6]) (mem' := (mk x y)) 2 rfl ?_
    refine mS_ic3 rfl (fun _ => ?_) (fun _ => ?_)
    · refine mS_forget [.ref 279, mU, .int a2, .int a3, mU, .int a5, mU] ⟨Or.inr rfl, Or.inl rfl, Or.inr rfl, Or.inr rfl, Or.inl rfl, Or.inr rfl, Or.inl rfl, trivial⟩ ?_
      exact hk239 a5
    · refine mS_steps (pc' := 157) (ls' := [.ref 279, mU, .int a2, .int a3, mU, .int a5, .int a6]) (st' := [.int ((8 : Int32) + a3), .ref 293]) (mem' := (mk x y)) 5 rfl ?_
      refine mS_ald (b := 0) (n := 24) (z := (y.1 293 ((8 : Int32) + a3).toNatClampNeg)) rfl (by decide) rfl (by decide) rfl (fun _ => ?_)
      refine mS_steps (pc' := 160) (ls' := [.ref 279, mU, .int a2, .int a3, mU, .int a5, .int a6]) (st' := [.int a6, .int (y.1 293 ((8 : Int32) + a3).toNatClampNeg)]) (mem' := (mk x y)) 1 rfl ?_
      refine mS_call (q := (f_X11_has (y.1 293 ((8 : Int32) + a3).toNatClampNeg) a6)) 87 2 [.int (y.1 293 ((8 : Int32) + a3).toNatClampNeg), .int a6] [] rfl rfl rfl ⟨_, _, _, rfl, rfl⟩ (Nat.le_of_ble_eq_true rfl) (Nat.le_of_ble_eq_true rfl) rfl (f_X11_has_snd (y.1 293 ((8 : Int32) + a3).toNatClampNeg) a6 (mk x y)) ?_
      refine mS_steps (pc' := 163) (ls' := [.ref 279, mU, .int a2, .int a3, mU, .int a5, .int a6]) (st' := [.int (f_X11_has (y.1 293 ((8 : Int32) + a3).toNatClampNeg) a6)]) (mem' := (mk x y)) 0 rfl ?_
      refine mS_if0 rfl (fun _ => ?_) (fun _ => ?_)
      · refine mS_steps (pc' := 142) (ls' := [.ref 279, mU, .int a2, .int a3, mU, .int a5, .int (a6 + (1 : Int32))]) (st' := []) (mem' := (mk x y)) 2 rfl ?_
        exact ih a5 (a6 + (1 : Int32))
      · refine mS_steps (pc' := 173) (ls' := [.ref 279, mU, .int a2, .int a3, mU, .int a5, .int a6]) (st' := [.int a3, .ref 303, .int a6]) (mem' := (mk x y)) 4 rfl ?_
        refine mS_ald (b := 0) (n := 8) (z := (y.1 303 a3.toNatClampNeg)) rfl (by decide) rfl (by decide) rfl (fun _ => ?_)
        refine mS_ic1 rfl (fun _ => ?_) (fun _ => ?_)
        · refine mS_steps (pc' := 142) (ls' := [.ref 279, mU, .int a2, .int a3, mU, .int a5, .int (a6 + (1 : Int32))]) (st' := []) (mem' := (mk x y)) 3 rfl ?_
          exact ih a5 (a6 + (1 : Int32))
        · refine mS_steps (pc' := 186) (ls' := [.ref 279, mU, .int a2, .int a3, mU, .int a5, .int a6]) (st' := [.int a6, .ref 302]) (mem' := (mk x y)) 3 rfl ?_
          refine mS_ald (b := 0) (n := 8) (z := (y.1 302 a6.toNatClampNeg)) rfl (by decide) rfl (by decide) rfl (fun _ => ?_)
          refine mS_steps (pc' := 189) (ls' := [.ref 279, mU, .int a2, .int a3, mU, .int a5, .int a6]) (st' := [.int a5, .int (y.1 302 a6.toNatClampNeg)]) (mem' := (mk x y)) 1 rfl ?_
          refine mS_jn (fun j => ∀ z : Int32, mS fm L xs (fun r : mY => (mU, mk x r)) pg_X11_searches 201 [.ref 279, mU, .int a2, .int a3, mU, .int z, .int a6] [] (mk x y) (j z)) ?_ ?_
          · intro z
            revert z; intro v8
            refine mS_steps (pc' := 207) (ls' := [.ref 279, mU, .int a2, .int a3, mU, .int v8, .int a6]) (st' := [.int a6, .ref 303]) (mem' := (mk x y)) 3 rfl ?_
            refine mS_ald (b := 0) (n := 8) (z := (y.1 303 a6.toNatClampNeg)) rfl (by decide) rfl (by decide) rfl (fun _ => ?_)
            refine mS_steps (pc' := 209) (ls' := [.ref 279, mU, .int a2, .int a3, mU, .int v8, .int a6]) (st' := [.int a3, .int (y.1 303 a6.toNatClampNeg)]) (mem' := (mk x y)) 1 rfl ?_
            refine mS_ic1 rfl (fun _ => ?_) (fun _ => ?_)
            · refine mS_steps (pc' := 218) (ls' := [.ref 279, mU, .int a2, .int a3, mU, .int v8, .int a6]) (st' := [.int a6, .ref 304]) (mem' := (mk x y)) 3 rfl ?_
              refine mS_ald (b := 0) (n := 8) (z := (y.1 304 a6.toNatClampNeg)) rfl (by decide) rfl (by decide) rfl (fun _ => ?_)
              refine mS_steps (pc' := 221) (ls' := [.ref 279, mU, .int a2, .int a3, mU, .int v8, .int a6]) (st' := [.int v8, .int (y.1 304 a6.toNatClampNeg)]) (mem' := (mk x y)) 1 rfl ?_
              refine mS_ic3 rfl (fun _ => ?_) (fun _ => ?_)
              · refine mS_steps (pc' := 142) (ls' := [.ref 279, mU, .int a2, .int a3, mU, .int v8, .int (a6 + (1 : Int32))]) (st' := []) (mem' := (mk x y)) 2 rfl ?_
                exact ih v8 (a6 + (1 : Int32))
              · refine mS_steps (pc' := 230) (ls' := [.ref 279, mU, .int a2, .int a3, mU, .int v8, .int a6]) (st' := [.int a6, .ref 304]) (mem' := (mk x y)) 3 rfl ?_
                refine mS_ald (b := 0) (n := 8) (z := (y.1 304 a6.toNatClampNeg)) rfl (by decide) rfl (by decide) rfl (fun _ => ?_)
                refine mS_steps (pc' := 142) (ls' := [.ref 279, mU, .int a2, .int a3, mU, .int (y.1 304 a6.toNatClampNeg), .int (a6 + (1 : Int32))]) (st' := []) (mem' := (mk x y)) 3 rfl ?_
                exact ih (y.1 304 a6.toNatClampNeg) (a6 + (1 : Int32))
            · refine mS_steps (pc' := 142) (ls' := [.ref 279, mU, .int a2, .int a3, mU, .int v8, .int (a6 + (1 : Int32))]) (st' := []) (mem' := (mk x y)) 2 rfl ?_
              exact ih v8 (a6 + (1 : Int32))
          intro j7 hj7
          refine mS_ic3 rfl (fun _ => ?_) (fun _ => ?_)
          · exact hj7 a5
          · refine mS_steps (pc' := 198) (ls' := [.ref 279, mU, .int a2, .int a3, mU, .int a5, .int a6]) (st' := [.int a6, .ref 302]) (mem' := (mk x y)) 3 rfl ?_
            refine mS_ald (b := 0) (n := 8) (z := (y.1 302 a6.toNatClampNeg)) rfl (by decide) rfl (by decide) rfl (fun _ => ?_)
            refine mS_steps (pc' := 201) (ls' := [.ref 279, mU, .int a2, .int a3, mU, .int (y.1 302 a6.toNatClampNeg), .int a6]) (st' := []) (mem' := (mk x y)) 1 rfl ?_
            exact hj7 (y.1 302 a6.toNatClampNeg)
set_option maxRecDepth 20000 in
set_option maxHeartbeats 2000000 in
theorem f_X11_searches_L46_snd {fm : Value} {L : Nat} {xs : Nat → Int32} (x : mX) : ∀ (n : Nat) (a2 : Int32) (a3 : Int32) (y : mY), mS fm L xs (fun r : mY => (mU, mk x r)) pg_X11_searches 46 [.ref 279, mU, .int a2, .int a3, mU, mU, mU] [] (mk x y) (f_X11_searches_L46 n a2 a3 y) := by
  intro n
  induction n with
  | zero => intro a2 a3 y; exact mS_none
  | succ n ih =>
    intro a2 a3 y
    rw [f_X11_searches_L46]
    refine mS_steps (pc' := 49) (ls' := [.ref 279, mU, .int a2, .int a3, mU, mU, mU]) (st' := [.int (-2 : Int32), .int a3]) (mem' := (mk x y)) 2 rfl ?_
    refine mS_ic0 rfl (fun _ => ?_) (fun _ => ?_)
    · exact mS_retv ⟨_, _, _, _, _, rfl⟩ rfl
    · refine mS_steps (pc' := 59) (ls' := [.ref 279, mU, .int a2, .int a3, .int (-1 : Int32), .int (7 : Int32), mU]) (st' := []) (mem' := (mk x y)) 4 rfl ?_
      refine f_X11_searches_L59_snd a2 a3 y x _ ?_ mF (-1 : Int32) (7 : Int32)
      · intro v6
        refine mS_steps (pc' := 103) (ls' := [.ref 279, mU, .int a2, .int a3, .int v6, mU, mU]) (st' := [.int v6]) (mem' := (mk x y)) 1 rfl ?_
        refine mS_if2 rfl (fun _ => ?_) (fun _ => ?_)
        · refine mS_steps (pc' := 136) (ls' := [.ref 279, mU, .int a2, .int a3, .int v6, mU, mU]) (st' := [.int a3, .ref 302]) (mem' := (mk x y)) 3 rfl ?_
          refine mS_ald (b := 0) (n := 8) (z := (y.1 302 a3.toNatClampNeg)) rfl (by decide) rfl (by decide) rfl (fun _ => ?_)
          refine mS_steps (pc' := 142) (ls' := [.ref 279, mU, .int a2, .int a3, .int v6, .int (y.1 302 a3.toNatClampNeg), .int (0 : Int32)]) (st' := []) (mem' := (mk x y)) 3 rfl ?_
          refine mS_forget [.ref 279, mU, .int a2, .int a3, mU, .int (y.1 302 a3.toNatClampNeg), .int (0 : Int32)] ⟨Or.inr rfl, Or.inl rfl, Or.inr rfl, Or.inr rfl, Or.inl rfl, Or.inr rfl, Or.inr rfl, trivial⟩ ?_
          refine f_X11_searches_L142_snd a2 a3 y x _ ?_ mF (y.1 302 a3.toNatClampNeg) (0 : Int32)
          · intro v9
            refine mS_steps (pc' := 246) (ls' := [.ref 279, mU, .int a2, .int a3, mU, .int v9, mU]) (st' := [.int v9, .int a3, .ref 304]) (mem' := (mk x y)) 4 rfl ?_
            refine mS_ast0y (n := 8) rfl rfl (by decide) (fun _ => ?_)
            refine mS_lety (fun y10 => ?_)
            refine mS_steps (pc' := 252) (ls' := [.ref 279, mU, .int a2, .int a3, mU, .int v9, mU]) (st' := [.int a3, .ref 303]) (mem' := (mk x y10)) 3 rfl ?_
            refine mS_ald (b := 0) (n := 8) (z := (y10.1 303 a3.toNatClampNeg)) rfl (by decide) rfl (by decide) rfl (fun _ => ?_)
            refine mS_steps (pc' := 46) (ls' := [.ref 279, mU, .int a2, .int (y10.1 303 a3.toNatClampNeg), mU, .int v9, mU]) (st' := []) (mem' := (mk x y10)) 2 rfl ?_
            refine mS_forget [.ref 279, mU, .int a2, .int (y10.1 303 a3.toNatClampNeg), mU, mU, mU] ⟨Or.inr rfl, Or.inl rfl, Or.inr rfl, Or.inr rfl, Or.inl rfl, Or.inl rfl, Or.inl rfl, trivial⟩ ?_
            exact ih a2 (y10.1 303 a3.toNatClampNeg) y10
        · refine mS_steps (pc' := 113) (ls' := [.ref 279, mU, .int a2, .int a3, .int v6, mU, mU]) (st' := [.int a2, .int v6, .ref 302]) (mem' := (mk x y)) 4 rfl ?_
          refine mS_ast0y (n := 8) rfl rfl (by decide) (fun _ => ?_)
          refine mS_lety (fun y11 => ?_)
          refine mS_steps (pc' := 124) (ls' := [.ref 279, mU, .int (a2 + (1 : Int32)), .int a3, .int v6, mU, mU]) (st' := [.int a3, .int v6, .ref 303]) (mem' := (mk x y11)) 5 rfl ?_
          refine mS_ast0y (n := 8) rfl rfl (by decide) (fun _ => ?_)
          refine mS_lety (fun y12 => ?_)
          refine mS_steps (pc' := 46) (ls' := [.ref 279, mU, .int (a2 + (1 : Int32)), .int v6, .int v6, mU, mU]) (st' := []) (mem' := (mk x y12)) 4 rfl ?_
          refine mS_forget [.ref 279, mU, .int (a2 + (1 : Int32)), .int v6, mU, mU, mU] ⟨Or.inr rfl, Or.inl rfl, Or.inr rfl, Or.inr rfl, Or.inl rfl, Or.inl rfl, Or.inl rfl, trivial⟩ ?_
          exact ih (a2 + (1 : Int32)) v6 y12
set_option maxRecDepth 20000 in
set_option maxHeartbeats 2000000 in
theorem f_X11_searches_snd {fm : Value} {L : Nat} {xs : Nat → Int32} (p1 : Int32) (y : mY) (x : mX) : mS fm L xs (fun r : mY => (mU, mk x r)) pg_X11_searches 0 (m_entry [.ref 279, .int p1] 7) [] (mk x y) ((f_X11_searches p1 y)) := by
  unfold f_X11_searches
  refine mS_steps (pc' := 0) (ls' := [.ref 279, .int p1, mU, mU, mU, mU, mU]) (st' := []) (mem' := (mk x y)) 0 rfl ?_
  refine mS_steps (pc' := 2) (ls' := [.ref 279, .int p1, mU, mU, mU, mU, mU]) (st' := [.int (1 : Int32), .ref 279]) (mem' := (mk x y)) 2 rfl ?_
  refine mS_bind (fun q1 hq1 => mS_call 143 2 [.ref 279, .int (1 : Int32)] [] rfl rfl rfl ⟨_, _, _, rfl, rfl⟩ (Nat.le_of_ble_eq_true rfl) (Nat.le_of_ble_eq_true rfl) hq1 (f_X11_laysNet_snd (1 : Int32) y x) ?_)
  refine mS_steps (pc' := 8) (ls' := [.ref 279, .int p1, .int (0 : Int32), mU, mU, mU, mU]) (st' := []) (mem' := (mk x q1.2)) 3 rfl ?_
  refine f_X11_searches_L8_snd p1 x _ ?_ mF (0 : Int32) q1.2
  · intro y3
    refine mS_steps (pc' := 37) (ls' := [.ref 279, .int p1, .int (1 : Int32), .int p1, mU, mU, mU]) (st' := [.int (0 : Int32), .int p1, .ref 302]) (mem' := (mk x y3)) 8 rfl ?_
    refine mS_ast0y (n := 8) rfl rfl (by decide) (fun _ => ?_)
    refine mS_lety (fun y4 => ?_)
    refine mS_steps (pc' := 45) (ls' := [.ref 279, .int p1, .int (1 : Int32), .int p1, mU, mU, mU]) (st' := [.int (-2 : Int32), .int p1, .ref 303]) (mem' := (mk x y4)) 4 rfl ?_
    refine mS_ast0y (n := 8) rfl rfl (by decide) (fun _ => ?_)
    refine mS_lety (fun y5 => ?_)
    refine mS_forget [.ref 279, mU, .int (1 : Int32), .int p1, mU, mU, mU] ⟨Or.inr rfl, Or.inl rfl, Or.inr rfl, Or.inr rfl, Or.inl rfl, Or.inl rfl, Or.inl rfl, trivial⟩ ?_
    refine f_X11_searches_L46_snd x mF (1 : Int32) p1 y5
def f_X11_search (p1 : Int32) (p2 : Int32) (p3 : Int32) (y : mY) : Option (Int32 × mY) := ((f_X11_isPost p1 y).bind fun q1 => (if q1 = 0 then (some ((-1 : Int32), y)) else ((f_X11_isPost p2 y).bind fun q2 => (if q2 = 0 then (some ((-1 : Int32), y)) else (if (f_X11_in p3 (0 : Int32) (2 : Int32)) = 0 then (some ((-1 : Int32), y)) else (if (f_X11_has (y.1 289 2) p1) = 0 then (some ((-1 : Int32), y)) else (if (f_X11_has (y.1 289 2) p2) = 0 then (some ((-1 : Int32), y)) else ((f_X11_searches p1 y).bind fun q3 => (if m_in p2 8 = true then (if 0 ≤ (q3.1 302 p2.toNatClampNeg) then (if p3 = 0 then (if m_in p2 8 = true then (some ((q3.1 302 p2.toNatClampNeg), q3)) else none) else (if p3 = (1 : Int32) then (if m_in p2 8 = true then (some ((q3.1 303 p2.toNatClampNeg), q3)) else none) else (if m_in p2 8 = true then (some ((q3.1 304 p2.toNatClampNeg), q3)) else none))) else (some ((-1 : Int32), q3))) else none)))))))))
set_option maxRecDepth 20000 in
set_option maxHeartbeats 2000000 in
theorem f_X11_search_snd {fm : Value} {L : Nat} {xs : Nat → Int32} (p1 : Int32) (p2 : Int32) (p3 : Int32) (y : mY) (x : mX) : mS fm L xs (fun r : (Int32 × mY) => (.int r.1, mk x r.2)) pg_X11_search 0 (m_entry [.ref 279, .int p1, .int p2, .int p3] 4) [] (mk x y) ((f_X11_search p1 p2 p3 y)) := by
  unfold f_X11_search
  refine mS_steps (pc' := 0) (ls' := [.ref 279, .int p1, .int p2, .int p3]) (st' := []) (mem' := (mk x y)) 0 rfl ?_
  refine mS_steps (pc' := 2) (ls' := [.ref 279, .int p1, .int p2, .int p3]) (st' := [.int p1, .ref 279]) (mem' := (mk x y)) 2 rfl ?_
  refine mS_bind (fun q1 hq1 => mS_call 104 2 [.ref 279, .int p1] [] rfl rfl rfl ⟨_, _, _, rfl, rfl⟩ (Nat.le_of_ble_eq_true rfl) (Nat.le_of_ble_eq_true rfl) hq1 (f_X11_isPost_snd p1 y x) ?_)
  refine mS_steps (pc' := 5) (ls' := [.ref 279, .int p1, .int p2, .int p3]) (st' := [.int q1]) (mem' := (mk x y)) 0 rfl ?_
  refine mS_if0 rfl (fun _ => ?_) (fun _ => ?_)
  · refine mS_steps (pc' := 52) (ls' := [.ref 279, .int p1, .int p2, .int p3]) (st' := [.int (-1 : Int32)]) (mem' := (mk x y)) 1 rfl ?_
    exact mS_reti ⟨_, _, _, _, _, rfl, rfl⟩ rfl
  · refine mS_steps (pc' := 10) (ls' := [.ref 279, .int p1, .int p2, .int p3]) (st' := [.int p2, .ref 279]) (mem' := (mk x y)) 2 rfl ?_
    refine mS_bind (fun q2 hq2 => mS_call 104 2 [.ref 279, .int p2] [] rfl rfl rfl ⟨_, _, _, rfl, rfl⟩ (Nat.le_of_ble_eq_true rfl) (Nat.le_of_ble_eq_true rfl) hq2 (f_X11_isPost_snd p2 y x) ?_)
    refine mS_steps (pc' := 13) (ls' := [.ref 279, .int p1, .int p2, .int p3]) (st' := [.int q2]) (mem' := (mk x y)) 0 rfl ?_
    refine mS_if0 rfl (fun _ => ?_) (fun _ => ?_)
    · refine mS_steps (pc' := 52) (ls' := [.ref 279, .int p1, .int p2, .int p3]) (st' := [.int (-1 : Int32)]) (mem' := (mk x y)) 1 rfl ?_
      exact mS_reti ⟨_, _, _, _, _, rfl, rfl⟩ rfl
    · refine mS_steps (pc' := 19) (ls' := [.ref 279, .int p1, .int p2, .int p3]) (st' := [.int (2 : Int32), .int (0 : Int32), .int p3]) (mem' := (mk x y)) 3 rfl ?_
      refine mS_call (q := (f_X11_in p3 (0 : Int32) (2 : Int32))) 83 3 [.int p3, .int (0 : Int32), .int (2 : Int32)] [] rfl rfl rfl ⟨_, _, _, rfl, rfl⟩ (Nat.le_of_ble_eq_true rfl) (Nat.le_of_ble_eq_true rfl) rfl (f_X11_in_snd p3 (0 : Int32) (2 : Int32) (mk x y)) ?_
      refine mS_steps (pc' := 22) (ls' := [.ref 279, .int p1, .int p2, .int p3]) (st' := [.int (f_X11_in p3 (0 : Int32) (2 : Int32))]) (mem' := (mk x y)) 0 rfl ?_
      refine mS_if0 rfl (fun _ => ?_) (fun _ => ?_)
      · refine mS_steps (pc' := 52) (ls' := [.ref 279, .int p1, .int p2, .int p3]) (st' := [.int (-1 : Int32)]) (mem' := (mk x y)) 1 rfl ?_
        exact mS_reti ⟨_, _, _, _, _, rfl, rfl⟩ rfl
      · refine mS_steps (pc' := 30) (ls' := [.ref 279, .int p1, .int p2, .int p3]) (st' := [.int (2 : Int32), .ref 289]) (mem' := (mk x y)) 3 rfl ?_
        refine mS_aldc (b := 0) (n := 72) (c := 2) (z := (y.1 289 2)) rfl (by decide) rfl (by decide) (by decide) (by decide) rfl ?_
        refine mS_steps (pc' := 32) (ls' := [.ref 279, .int p1, .int p2, .int p3]) (st' := [.int p1, .int (y.1 289 2)]) (mem' := (mk x y)) 1 rfl ?_
        refine mS_call (q := (f_X11_has (y.1 289 2) p1)) 87 2 [.int (y.1 289 2), .int p1] [] rfl rfl rfl ⟨_, _, _, rfl, rfl⟩ (Nat.le_of_ble_eq_true rfl) (Nat.le_of_ble_eq_true rfl) rfl (f_X11_has_snd (y.1 289 2) p1 (mk x y)) ?_
        refine mS_steps (pc' := 35) (ls' := [.ref 279, .int p1, .int p2, .int p3]) (st' := [.int (f_X11_has (y.1 289 2) p1)]) (mem' := (mk x y)) 0 rfl ?_
        refine mS_if0 rfl (fun _ => ?_) (fun _ => ?_)
        · refine mS_steps (pc' := 52) (ls' := [.ref 279, .int p1, .int p2, .int p3]) (st' := [.int (-1 : Int32)]) (mem' := (mk x y)) 1 rfl ?_
          exact mS_reti ⟨_, _, _, _, _, rfl, rfl⟩ rfl
        · refine mS_steps (pc' := 43) (ls' := [.ref 279, .int p1, .int p2, .int p3]) (st' := [.int (2 : Int32), .ref 289]) (mem' := (mk x y)) 3 rfl ?_
          refine mS_aldc (b := 0) (n := 72) (c := 2) (z := (y.1 289 2)) rfl (by decide) rfl (by decide) (by decide) (by decide) rfl ?_
          refine mS_steps (pc' := 45) (ls' := [.ref 279, .int p1, .int p2, .int p3]) (st' := [.int p2, .int (y.1 289 2)]) (mem' := (mk x y)) 1 rfl ?_
          refine mS_call (q := (f_X11_has (y.1 289 2) p2)) 87 2 [.int (y.1 289 2), .int p2] [] rfl rfl rfl ⟨_, _, _, rfl, rfl⟩ (Nat.le_of_ble_eq_true rfl) (Nat.le_of_ble_eq_true rfl) rfl (f_X11_has_snd (y.1 289 2) p2 (mk x y)) ?_
          refine mS_steps (pc' := 48) (ls' := [.ref 279, .int p1, .int p2, .int p3]) (st' := [.int (f_X11_has (y.1 289 2) p2)]) (mem' := (mk x y)) 0 rfl ?_
          refine mS_if1 rfl (fun _ => ?_) (fun _ => ?_)
          · refine mS_steps (pc' := 52) (ls' := [.ref 279, .int p1, .int p2, .int p3]) (st' := [.int (-1 : Int32)]) (mem' := (mk x y)) 1 rfl ?_
            exact mS_reti ⟨_, _, _, _, _, rfl, rfl⟩ rfl
          · refine mS_steps (pc' := 55) (ls' := [.ref 279, .int p1, .int p2, .int p3]) (st' := [.int p1, .ref 279]) (mem' := (mk x y)) 2 rfl ?_
            refine mS_bind (fun q3 hq3 => mS_call 211 2 [.ref 279, .int p1] [] rfl rfl rfl ⟨_, _, _, rfl, rfl⟩ (Nat.le_of_ble_eq_true rfl) (Nat.le_of_ble_eq_true rfl) hq3 (f_X11_searches_snd p1 y x) ?_)
            refine mS_steps (pc' := 63) (ls' := [.ref 279, .int p1, .int p2, .int p3]) (st' := [.int p2, .ref 302]) (mem' := (mk x q3)) 3 rfl ?_
            refine mS_ald (b := 0) (n := 8) (z := (q3.1 302 p2.toNatClampNeg)) rfl (by decide) rfl (by decide) rfl (fun _ => ?_)
            refine mS_if3 rfl (fun _ => ?_) (fun _ => ?_)
            · refine mS_steps (pc' := 70) (ls' := [.ref 279, .int p1, .int p2, .int p3]) (st' := [.int p3]) (mem' := (mk x q3)) 1 rfl ?_
              refine mS_if1 rfl (fun _ => ?_) (fun _ => ?_)
              · refine mS_steps (pc' := 78) (ls' := [.ref 279, .int p1, .int p2, .int p3]) (st' := [.int p2, .ref 302]) (mem' := (mk x q3)) 3 rfl ?_
                refine mS_ald (b := 0) (n := 8) (z := (q3.1 302 p2.toNatClampNeg)) rfl (by decide) rfl (by decide) rfl (fun _ => ?_)
                refine mS_steps (pc' := 102) (ls' := [.ref 279, .int p1, .int p2, .int p3]) (st' := [.int (q3.1 302 p2.toNatClampNeg)]) (mem' := (mk x q3)) 1 rfl ?_
                exact mS_reti ⟨_, _, _, _, _, rfl, rfl⟩ rfl
              · refine mS_steps (pc' := 84) (ls' := [.ref 279, .int p1, .int p2, .int p3]) (st' := [.int (1 : Int32), .int p3]) (mem' := (mk x q3)) 2 rfl ?_
                refine mS_ic1 rfl (fun _ => ?_) (fun _ => ?_)
                · refine mS_steps (pc' := 92) (ls' := [.ref 279, .int p1, .int p2, .int p3]) (st' := [.int p2, .ref 303]) (mem' := (mk x q3)) 3 rfl ?_
                  refine mS_ald (b := 0) (n := 8) (z := (q3.1 303 p2.toNatClampNeg)) rfl (by decide) rfl (by decide) rfl (fun _ => ?_)
                  refine mS_steps (pc' := 102) (ls' := [.ref 279, .int p1, .int p2, .int p3]) (st' := [.int (q3.1 303 p2.toNatClampNeg)]) (mem' := (mk x q3)) 1 rfl ?_
                  exact mS_reti ⟨_, _, _, _, _, rfl, rfl⟩ rfl
                · refine mS_steps (pc' := 101) (ls' := [.ref 279, .int p1, .int p2, .int p3]) (st' := [.int p2, .ref 304]) (mem' := (mk x q3)) 3 rfl ?_
                  refine mS_ald (b := 0) (n := 8) (z := (q3.1 304 p2.toNatClampNeg)) rfl (by decide) rfl (by decide) rfl (fun _ => ?_)
                  exact mS_reti ⟨_, _, _, _, _, rfl, rfl⟩ rfl
            · refine mS_steps (pc' := 68) (ls' := [.ref 279, .int p1, .int p2, .int p3]) (st' := [.int (-1 : Int32)]) (mem' := (mk x q3)) 1 rfl ?_
              exact mS_reti ⟨_, _, _, _, _, rfl, rfl⟩ rfl
def f_X0_enter (p1 : Int32) (x : mX) : Option mX := (if p1 < 0 then (some x) else (if (x.1 245 6) < 0 then (some x) else (if (8 : Int32) ≤ (x.1 245 6) then (some x) else (m_let (m_xs x 245 7 ((x.1 245 7) ||| ((1 : Int32) <<< (p1 &&& 31)))) fun x1 => (if m_in (x1.1 245 6) 8 = true then (m_let (m_xs x1 249 (x1.1 245 6).toNatClampNeg p1) fun x2 => (m_let (m_xs x2 245 6 ((x2.1 245 6) + (1 : Int32))) fun x3 => (some x3))) else none)))))
set_option maxRecDepth 20000 in
set_option maxHeartbeats 2000000 in
theorem f_X0_enter_snd {fm : Value} {L : Nat} {xs : Nat → Int32} (p1 : Int32) (x : mX) (y : mY) : mS fm L xs (fun r : mX => (mU, mk r y)) pg_X0_enter 0 (m_entry [.ref 245, .int p1] 2) [] (mk x y) ((f_X0_enter p1 x)) := by
  unfold f_X0_enter
  refine mS_steps (pc' := 0) (ls' := [.ref 245, .int p1]) (st' := []) (mem' := (mk x y)) 0 rfl ?_
  refine mS_steps (pc' := 1) (ls' := [.ref 245, .int p1]) (st' := [.int p1]) (mem' := (mk x y)) 1 rfl ?_
  refine mS_if2 rfl (fun _ => ?_) (fun _ => ?_)
  · exact mS_retv ⟨_, _, _, _, _, rfl⟩ rfl
  · refine mS_steps (pc' := 8) (ls' := [.ref 245, .int p1]) (st' := [.int (x.1 245 6)]) (mem' := (mk x y)) 2 rfl ?_
    refine mS_if2 rfl (fun _ => ?_) (fun _ => ?_)
    · exact mS_retv ⟨_, _, _, _, _, rfl⟩ rfl
    · refine mS_steps (pc' := 17) (ls' := [.ref 245, .int p1]) (st' := [.int (8 : Int32), .int (x.1 245 6)]) (mem' := (mk x y)) 3 rfl ?_
      refine mS_ic3 rfl (fun _ => ?_) (fun _ => ?_)
      · exact mS_retv ⟨_, _, _, _, _, rfl⟩ rfl
      · refine mS_steps (pc' := 29) (ls' := [.ref 245, .int p1]) (st' := [.int ((x.1 245 7) ||| ((1 : Int32) <<< (p1 &&& 31))), .ref 245]) (mem' := (mk x y)) 7 rfl ?_
        refine mS_putx rfl rfl (by decide) rfl ?_
        refine mS_letx (fun x1 => ?_)
        refine mS_steps (pc' := 41) (ls' := [.ref 245, .int p1]) (st' := [.int p1, .int (x1.1 245 6), .ref 249]) (mem' := (mk x1 y)) 5 rfl ?_
        refine mS_ast0x (n := 8) rfl rfl (by decide) (fun _ => ?_)
        refine mS_letx (fun x2 => ?_)
        refine mS_steps (pc' := 49) (ls' := [.ref 245, .int p1]) (st' := [.int ((x2.1 245 6) + (1 : Int32)), .ref 245]) (mem' := (mk x2 y)) 5 rfl ?_
        refine mS_putx rfl rfl (by decide) rfl ?_
        refine mS_letx (fun x3 => ?_)
        exact mS_retv ⟨_, _, _, _, _, rfl⟩ rfl
def f_X0_firstLoose_L2 : Nat → Int32 → mX → Option Int32
  | 0, _, _ => none
  | n + 1, a1, x => (if (x.1 245 6) ≤ a1 then (some (-1 : Int32)) else (if (8 : Int32) ≤ a1 then (some (-1 : Int32)) else (if m_in a1 8 = true then (if m_in (x.1 249 a1.toNatClampNeg) 8 = true then (if (x.1 248 (x.1 249 a1.toNatClampNeg).toNatClampNeg) = 0 then (f_X0_firstLoose_L2 n (a1 + (1 : Int32)) x) else (if m_in a1 8 = true then (some (x.1 249 a1.toNatClampNeg)) else none)) else none) else none)))
def f_X0_firstLoose (x : mX) : Option Int32 := (f_X0_firstLoose_L2 mF (0 : Int32) x)
set_option maxRecDepth 20000 in
set_option maxHeartbeats 2000000 in
theorem f_X0_firstLoose_L2_snd {fm : Value} {L : Nat} {xs : Nat → Int32} (x : mX) (y : mY) : ∀ (n : Nat) (a1 : Int32), mS fm L xs (fun r : Int32 => (.int r, (mk x y))) pg_X0_firstLoose 2 [.ref 245, .int a1] [] (mk x y) (f_X0_firstLoose_L2 n a1 x) := by
  intro n
  induction n with
  | zero => intro a1; exact mS_none
  | succ n ih =>
    intro a1
    rw [f_X0_firstLoose_L2]
    refine mS_steps (pc' := 7) (ls' := [.ref 245, .int a1]) (st' := [.int (x.1 245 6), .int a1]) (mem' := (mk x y)) 3 rfl ?_
    refine mS_ic3 rfl (fun _ => ?_) (fun _ => ?_)
    · refine mS_steps (pc' := 44) (ls' := [.ref 245, .int a1]) (st' := [.int (-1 : Int32)]) (mem' := (mk x y)) 1 rfl ?_
      exact mS_reti ⟨_, _, _, _, _, rfl, rfl⟩ rfl
    · refine mS_steps (pc' := 13) (ls' := [.ref 245, .int a1]) (st' := [.int (8 : Int32), .int a1]) (mem' := (mk x y)) 2 rfl ?_
      refine mS_ic3 rfl (fun _ => ?_) (fun _ => ?_)
      · refine mS_steps (pc' := 44) (ls' := [.ref 245, .int a1]) (st' := [.int (-1 : Int32)]) (mem' := (mk x y)) 1 rfl ?_
        exact mS_reti ⟨_, _, _, _, _, rfl, rfl⟩ rfl
      · refine mS_steps (pc' := 25) (ls' := [.ref 245, .int a1]) (st' := [.int a1, .ref 249, .ref 248]) (mem' := (mk x y)) 5 rfl ?_
        refine mS_ald (b := 0) (n := 8) (z := (x.1 249 a1.toNatClampNeg)) rfl (by decide) rfl (by decide) rfl (fun _ => ?_)
        refine mS_ald (b := 0) (n := 8) (z := (x.1 248 (x.1 249 a1.toNatClampNeg).toNatClampNeg)) rfl (by decide) rfl (by decide) rfl (fun _ => ?_)
        refine mS_if0 rfl (fun _ => ?_) (fun _ => ?_)
        · refine mS_steps (pc' := 2) (ls' := [.ref 245, .int (a1 + (1 : Int32))]) (st' := []) (mem' := (mk x y)) 2 rfl ?_
          exact ih (a1 + (1 : Int32))
        · refine mS_steps (pc' := 35) (ls' := [.ref 245, .int a1]) (st' := [.int a1, .ref 249]) (mem' := (mk x y)) 3 rfl ?_
          refine mS_ald (b := 0) (n := 8) (z := (x.1 249 a1.toNatClampNeg)) rfl (by decide) rfl (by decide) rfl (fun _ => ?_)
          exact mS_reti ⟨_, _, _, _, _, rfl, rfl⟩ rfl
set_option maxRecDepth 20000 in
set_option maxHeartbeats 2000000 in
theorem f_X0_firstLoose_snd {fm : Value} {L : Nat} {xs : Nat → Int32} (x : mX) (y : mY) : mS fm L xs (fun r : Int32 => (.int r, (mk x y))) pg_X0_firstLoose 0 (m_entry [.ref 245] 2) [] (mk x y) ((f_X0_firstLoose x)) := by
  unfold f_X0_firstLoose
  refine mS_steps (pc' := 0) (ls' := [.ref 245, mU]) (st' := []) (mem' := (mk x y)) 0 rfl ?_
  refine mS_steps (pc' := 2) (ls' := [.ref 245, .int (0 : Int32)]) (st' := []) (mem' := (mk x y)) 2 rfl ?_
  refine f_X0_firstLoose_L2_snd x y mF (0 : Int32)
def f_X0_putCell (p1 : Int32) (x : mX) : Option mX := (if (x.1 245 1) < 0 then (some x) else (if (48 : Int32) ≤ (x.1 245 1) then (some x) else (if m_in (x.1 245 1) 48 = true then (m_let (m_xs x 246 (x.1 245 1).toNatClampNeg p1) fun x1 => (m_let (m_xs x1 245 1 ((x1.1 245 1) + (1 : Int32))) fun x2 => (some x2))) else none)))
set_option maxRecDepth 20000 in
set_option maxHeartbeats 2000000 in
theorem f_X0_putCell_snd {fm : Value} {L : Nat} {xs : Nat → Int32} (p1 : Int32) (x : mX) (y : mY) : mS fm L xs (fun r : mX => (mU, mk r y)) pg_X0_putCell 0 (m_entry [.ref 245, .int p1] 2) [] (mk x y) ((f_X0_putCell p1 x)) := by
  unfold f_X0_putCell
  refine mS_steps (pc' := 0) (ls' := [.ref 245, .int p1]) (st' := []) (mem' := (mk x y)) 0 rfl ?_
  refine mS_steps (pc' := 4) (ls' := [.ref 245, .int p1]) (st' := [.int (x.1 245 1)]) (mem' := (mk x y)) 2 rfl ?_
  refine mS_if2 rfl (fun _ => ?_) (fun _ => ?_)
  · exact mS_retv ⟨_, _, _, _, _, rfl⟩ rfl
  · refine mS_steps (pc' := 13) (ls' := [.ref 245, .int p1]) (st' := [.int (48 : Int32), .int (x.1 245 1)]) (mem' := (mk x y)) 3 rfl ?_
    refine mS_ic3 rfl (fun _ => ?_) (fun _ => ?_)
    · exact mS_retv ⟨_, _, _, _, _, rfl⟩ rfl
    · refine mS_steps (pc' := 25) (ls' := [.ref 245, .int p1]) (st' := [.int p1, .int (x.1 245 1), .ref 246]) (mem' := (mk x y)) 5 rfl ?_
      refine mS_ast0x (n := 48) rfl rfl (by decide) (fun _ => ?_)
      refine mS_letx (fun x1 => ?_)
      refine mS_steps (pc' := 33) (ls' := [.ref 245, .int p1]) (st' := [.int ((x1.1 245 1) + (1 : Int32)), .ref 245]) (mem' := (mk x1 y)) 5 rfl ?_
      refine mS_putx rfl rfl (by decide) rfl ?_
      refine mS_letx (fun x2 => ?_)
      exact mS_retv ⟨_, _, _, _, _, rfl⟩ rfl
def f_X0_goOver (p1 : Int32) (p2 : Int32) (x : mX) : Option mX := (if m_in p1 8 = true then (if m_in p1 8 = true then (m_let (m_xs x 248 p1.toNatClampNeg ((x.1 248 p1.toNatClampNeg) &&& (((1 : Int32) <<< (p2 &&& 31)) ^^^ (-1 : Int32)))) fun x1 => (if m_in p2 8 = true then (if m_in p2 8 = true then (m_let (m_xs x1 248 p2.toNatClampNeg ((x1.1 248 p2.toNatClampNeg) &&& (((1 : Int32) <<< (p1 &&& 31)) ^^^ (-1 : Int32)))) fun x2 => ((f_X0_putCell p2 x2).bind fun q3 => (some q3))) else none) else none)) else none) else none)
set_option maxRecDepth 20000 in
set_option maxHeartbeats 2000000 in
theorem f_X0_goOver_snd {fm : Value} {L : Nat} {xs : Nat → Int32} (p1 : Int32) (p2 : Int32) (x : mX) (y : mY) : mS fm L xs (fun r : mX => (mU, mk r y)) pg_X0_goOver 0 (m_entry [.ref 245, .int p1, .int p2] 3) [] (mk x y) ((f_X0_goOver p1 p2 x)) := by
  unfold f_X0_goOver
  refine mS_steps (pc' := 0) (ls' := [.ref 245, .int p1, .int p2]) (st' := []) (mem' := (mk x y)) 0 rfl ?_
  refine mS_steps (pc' := 6) (ls' := [.ref 245, .int p1, .int p2]) (st' := [.int p1, .ref 248, .int p1, .ref 248]) (mem' := (mk x y)) 4 rfl ?_
  refine mS_ald (b := 0) (n := 8) (z := (x.1 248 p1.toNatClampNeg)) rfl (by decide) rfl (by decide) rfl (fun _ => ?_)
  refine mS_steps (pc' := 13) (ls' := [.ref 245, .int p1, .int p2]) (st' := [.int ((x.1 248 p1.toNatClampNeg) &&& (((1 : Int32) <<< (p2 &&& 31)) ^^^ (-1 : Int32))), .int p1, .ref 248]) (mem' := (mk x y)) 6 rfl ?_
  refine mS_ast0x (n := 8) rfl rfl (by decide) (fun _ => ?_)
  refine mS_letx (fun x1 => ?_)
  refine mS_steps (pc' := 20) (ls' := [.ref 245, .int p1, .int p2]) (st' := [.int p2, .ref 248, .int p2, .ref 248]) (mem' := (mk x1 y)) 4 rfl ?_
  refine mS_ald (b := 0) (n := 8) (z := (x1.1 248 p2.toNatClampNeg)) rfl (by decide) rfl (by decide) rfl (fun _ => ?_)
  refine mS_steps (pc' := 27) (ls' := [.ref 245, .int p1, .int p2]) (st' := [.int ((x1.1 248 p2.toNatClampNeg) &&& (((1 : Int32) <<< (p1 &&& 31)) ^^^ (-1 : Int32))), .int p2, .ref 248]) (mem' := (mk x1 y)) 6 rfl ?_
  refine mS_ast0x (n := 8) rfl rfl (by decide) (fun _ => ?_)
  refine mS_letx (fun x2 => ?_)
  refine mS_steps (pc' := 30) (ls' := [.ref 245, .int p1, .int p2]) (st' := [.int p2, .ref 245]) (mem' := (mk x2 y)) 2 rfl ?_
  refine mS_bind (fun q3 hq3 => mS_call 215 2 [.ref 245, .int p2] [] rfl rfl rfl ⟨_, _, _, rfl, rfl⟩ (Nat.le_of_ble_eq_true rfl) (Nat.le_of_ble_eq_true rfl) hq3 (f_X0_putCell_snd p2 x2 y) ?_)
  refine mS_steps (pc' := 33) (ls' := [.ref 245, .int p1, .int p2]) (st' := []) (mem' := (mk q3 y)) 0 rfl ?_
  exact mS_retv ⟨_, _, _, _, _, rfl⟩ rfl
def f_X0_measure_L2 : Nat → Int32 → mX → (mX → Option mX) → Option mX
  | 0, _, _, _ => none
  | n + 1, a3, x, k21 => (if (8 : Int32) ≤ a3 then (k21 x) else (if m_in a3 8 = true then (m_let (m_xs x 250 a3.toNatClampNeg (0 : Int32)) fun x1 => (f_X0_measure_L2 n (a3 + (1 : Int32)) x1 k21)) else none))
def f_X0_measure_L46 (a3 : Int32) (a4 : Int32) (a5 : Int32) : Nat → Int32 → Int32 → mX → (Int32 → mX → Option mX) → Option mX
  | 0, _, _, _, _ => none
  | n + 1, a6, a7, x, k99 => (if (8 : Int32) ≤ a7 then (k99 a6 x) else (if (f_X10_has a4 a7) = 0 then (f_X0_measure_L46 a3 a4 a5 n a6 (a7 + (1 : Int32)) x k99) else (if m_in a7 8 = true then (if ((x.1 248 a7.toNatClampNeg) &&& a3) = 0 then (f_X0_measure_L46 a3 a4 a5 n a6 (a7 + (1 : Int32)) x k99) else (if m_in a7 8 = true then (m_let (m_xs x 250 a7.toNatClampNeg a5) fun x3 => (f_X0_measure_L46 a3 a4 a5 n (a6 ||| ((1 : Int32) <<< (a7 &&& 31))) (a7 + (1 : Int32)) x3 k99)) else none)) else none)))
def f_X0_measure_L29 : Nat → Int32 → Int32 → Int32 → mX → Option mX
  | 0, _, _, _, _ => none
  | n + 1, a3, a4, a5, x => (if (8 : Int32) < a5 then (some x) else (if a3 = 0 then (some x) else (f_X0_measure_L46 a3 a4 a5 mF (0 : Int32) (0 : Int32) x (fun v4 x5 => (f_X0_measure_L29 n v4 (a4 &&& (v4 ^^^ (-1 : Int32))) (a5 + (1 : Int32)) x5)))))
def f_X0_measure (p1 : Int32) (p2 : Int32) (x : mX) : Option mX := (f_X0_measure_L2 mF (0 : Int32) x (fun x2 => (f_X0_measure_L29 mF p2 p1 (1 : Int32) x2)))
set_option maxRecDepth 20000 in
set_option maxHeartbeats 2000000 in
theorem f_X0_measure_L2_snd {fm : Value} {L : Nat} {xs : Nat → Int32} (a1 : Int32) (a2 : Int32) (y : mY) (k21 : mX → Option mX) (hk21 : ∀ (z0 : mX), mS fm L xs (fun r : mX => (mU, mk r y)) pg_X0_measure 21 [.ref 245, .int a1, .int a2, mU, mU, mU, mU, mU] [] (mk z0 y) (k21 z0)) : ∀ (n : Nat) (a3 : Int32) (x : mX), mS fm L xs (fun r : mX => (mU, mk r y)) pg_X0_measure 2 [.ref 245, .int a1, .int a2, .int a3, mU, mU, mU, mU] [] (mk x y) (f_X0_measure_L2 n a3 x k21) := by
  intro n
  induction n with
  | zero => intro a3 x; exact mS_none
  | succ n ih =>
    intro a3 x
    rw [f_X0_measure_L2]
    refine mS_steps (pc' := 5) (ls' := [.ref 245, .int a1, .int a2, .int a3, mU, mU, mU, mU]) (st' := [.int (8 : Int32), .int a3]) (mem' := (mk x y)) 2 rfl ?_
    refine mS_ic3 rfl (fun _ => ?_) (fun _ => ?_)
    · refine mS_forget [.ref 245, .int a1, .int a2, mU, mU, mU, mU, mU] ⟨Or.inr rfl, Or.inr rfl, Or.inr rfl, Or.inl rfl, Or.inl rfl, Or.inl rfl, Or.inl rfl, Or.inl rfl, trivial⟩ ?_
      exact hk21 x
    · refine mS_steps (pc' := 14) (ls' := [.ref 245, .int a1, .int a2, .int a3, mU, mU, mU, mU]) (st' := [.int (0 : Int32), .int a3, .ref 250]) (mem' := (mk x y)) 4 rfl ?_
      refine mS_ast0x (n := 8) rfl rfl (by decide) (fun _ => ?_)
      refine mS_letx (fun x1 => ?_)
      refine mS_steps (pc' := 2) (ls' := [.ref 245, .int a1, .int a2, .int (a3 + (1 : Int32)), mU, mU, mU, mU]) (st' := []) (mem' := (mk x1 y)) 2 rfl ?_
      exact ih (a3 + (1 : Int32)) x1
set_option maxRecDepth 20000 in
set_option maxHeartbeats 2000000 in
theorem f_X0_measure_L46_snd {fm : Value} {L : Nat} {xs : Nat → Int32} (a3 : Int32) (a4 : Int32) (a5 : Int32) (y : mY) (k99 : Int32 → mX → Option mX) (hk99 : ∀ (b6 : Int32) (z0 : mX), mS fm L xs (fun r : mX => (mU, mk r y)) pg_X0_measure 99 [.ref 245, mU, mU, mU, .int a4, .int a5, .int b6, mU] [] (mk z0 y) (k99 b6 z0)) : ∀ (n : Nat) (a6 : Int32) (a7 : Int32) (x : mX), mS fm L xs (fun r : mX => (mU, mk r y)) pg_X0_measure 46 [.ref 245, mU, mU, .int a3, .int a4, .int a5, .int a6, .int a7] [] (mk x y) (f_X0_measure_L46 a3 a4 a5 n a6 a7 x k99) := by
  intro n
  induction n with
  | zero => intro a6 a7 x; exact mS_none
  | succ n ih =>
    intro a6 a7 x
    rw [f_X0_measure_L46]
    refine mS_steps (pc' := 50) (ls' := [.ref 245, mU, mU, .int a3, .int a4, .int a5, .int a6, .int a7]) (st' := [.int (8 : Int32), .int a7]) (mem' := (mk x y)) 2 rfl ?_
    refine mS_ic3 rfl (fun _ => ?_) (fun _ => ?_)
    · refine mS_forget [.ref 245, mU, mU, mU, .int a4, .int a5, .int a6, mU] ⟨Or.inr rfl, Or.inl rfl, Or.inl rfl, Or.inl rfl, Or.inr rfl, Or.inr rfl, Or.inr rfl, Or.inl rfl, trivial⟩ ?_
      exact hk99 a6 x
    · refine mS_steps (pc' := 57) (ls' := [.ref 245, mU, mU, .int a3, .int a4, .int a5, .int a6, .int a7]) (st' := [.int a7, .int a4]) (mem' := (mk x y)) 2 rfl ?_
      refine mS_call (q := (f_X10_has a4 a7)) 57 2 [.int a4, .int a7] [] rfl rfl rfl ⟨_, _, _, rfl, rfl⟩ (Nat.le_of_ble_eq_true rfl) (Nat.le_of_ble_eq_true rfl) rfl (f_X10_has_snd a4 a7 (mk x y)) ?_
      refine mS_steps (pc' := 60) (ls' := [.ref 245, mU, mU, .int a3, .int a4, .int a5, .int a6, .int a7]) (st' := [.int (f_X10_has a4 a7)]) (mem' := (mk x y)) 0 rfl ?_
      refine mS_if0 rfl (fun _ => ?_) (fun _ => ?_)
      · refine mS_steps (pc' := 46) (ls' := [.ref 245, mU, mU, .int a3, .int a4, .int a5, .int a6, .int (a7 + (1 : Int32))]) (st' := []) (mem' := (mk x y)) 2 rfl ?_
        exact ih a6 (a7 + (1 : Int32)) x
      · refine mS_steps (pc' := 69) (ls' := [.ref 245, mU, mU, .int a3, .int a4, .int a5, .int a6, .int a7]) (st' := [.int a7, .ref 248]) (mem' := (mk x y)) 3 rfl ?_
        refine mS_ald (b := 0) (n := 8) (z := (x.1 248 a7.toNatClampNeg)) rfl (by decide) rfl (by decide) rfl (fun _ => ?_)
        refine mS_steps (pc' := 72) (ls' := [.ref 245, mU, mU, .int a3, .int a4, .int a5, .int a6, .int a7]) (st' := [.int ((x.1 248 a7.toNatClampNeg) &&& a3)]) (mem' := (mk x y)) 2 rfl ?_
        refine mS_if0 rfl (fun _ => ?_) (fun _ => ?_)
        · refine mS_steps (pc' := 46) (ls' := [.ref 245, mU, mU, .int a3, .int a4, .int a5, .int a6, .int (a7 + (1 : Int32))]) (st' := []) (mem' := (mk x y)) 2 rfl ?_
          exact ih a6 (a7 + (1 : Int32)) x
        · refine mS_steps (pc' := 83) (ls' := [.ref 245, mU, mU, .int a3, .int a4, .int a5, .int a6, .int a7]) (st' := [.int a5, .int a7, .ref 250]) (mem' := (mk x y)) 4 rfl ?_
          refine mS_ast0x (n := 8) rfl rfl (by decide) (fun _ => ?_)
          refine mS_letx (fun x3 => ?_)
          refine mS_steps (pc' := 46) (ls' := [.ref 245, mU, mU, .int a3, .int a4, .int a5, .int (a6 ||| ((1 : Int32) <<< (a7 &&& 31))), .int (a7 + (1 : Int32))]) (st' := []) (mem' := (mk x3 y)) 8 rfl ?_
          exact ih (a6 ||| ((1 : Int32) <<< (a7 &&& 31))) (a7 + (1 : Int32)) x3
set_option maxRecDepth 20000 in
set_option maxHeartbeats 2000000 in
theorem f_X0_measure_L29_snd {fm : Value} {L : Nat} {xs : Nat → Int32} (y : mY) : ∀ (n : Nat) (a3 : Int32) (a4 : Int32) (a5 : Int32) (x : mX), mS fm L xs (fun r : mX => (mU, mk r y)) pg_X0_measure 29 [.ref 245, mU, mU, .int a3, .int a4, .int a5, mU, mU] [] (mk x y) (f_X0_measure_L29 n a3 a4 a5 x) := by
  intro n
  induction n with
  | zero => intro a3 a4 a5 x; exact mS_none
  | succ n ih =>
    intro a3 a4 a5 x
    rw [f_X0_measure_L29]
    refine mS_steps (pc' := 33) (ls' := [.ref 245, mU, mU, .int a3, .int a4, .int a5, mU, mU]) (st' := [.int (8 : Int32), .int a5]) (mem' := (mk x y)) 2 rfl ?_
    refine mS_ic4 rfl (fun _ => ?_) (fun _ => ?_)
    · exact mS_retv ⟨_, _, _, _, _, rfl⟩ rfl
    · refine mS_steps (pc' := 37) (ls' := [.ref 245, mU, mU, .int a3, .int a4, .int a5, mU, mU]) (st' := [.int a3]) (mem' := (mk x y)) 1 rfl ?_
      refine mS_if0 rfl (fun _ => ?_) (fun _ => ?_)
      · exact mS_retv ⟨_, _, _, _, _, rfl⟩ rfl
      · refine mS_steps (pc' := 46) (ls' := [.ref 245, mU, mU, .int a3, .int a4, .int a5, .int (0 : Int32), .int (0 : Int32)]) (st' := []) (mem' := (mk x y)) 4 rfl ?_
        refine f_X0_measure_L46_snd a3 a4 a5 y _ ?_ mF (0 : Int32) (0 : Int32) x
        · intro v4 x5
          refine mS_steps (pc' := 29) (ls' := [.ref 245, mU, mU, .int v4, .int (a4 &&& (v4 ^^^ (-1 : Int32))), .int (a5 + (1 : Int32)), .int v4, mU]) (st' := []) (mem' := (mk x5 y)) 10 rfl ?_
          refine mS_forget [.ref 245, mU, mU, .int v4, .int (a4 &&& (v4 ^^^ (-1 : Int32))), .int (a5 + (1 : Int32)), mU, mU] ⟨Or.inr rfl, Or.inl rfl, Or.inl rfl, Or.inr rfl, Or.inr rfl, Or.inr rfl, Or.inl rfl, Or.inl rfl, trivial⟩ ?_
          exact ih v4 (a4 &&& (v4 ^^^ (-1 : Int32))) (a5 + (1 : Int32)) x5
set_option maxRecDepth 20000 in
set_option maxHeartbeats 2000000 in
theorem f_X0_measure_snd {fm : Value} {L : Nat} {xs : Nat → Int32} (p1 : Int32) (p2 : Int32) (x : mX) (y : mY) : mS fm L xs (fun r : mX => (mU, mk r y)) pg_X0_measure 0 (m_entry [.ref 245, .int p1, .int p2] 8) [] (mk x y) ((f_X0_measure p1 p2 x)) := by
  unfold f_X0_measure
  refine mS_steps (pc' := 0) (ls' := [.ref 245, .int p1, .int p2, mU, mU, mU, mU, mU]) (st' := []) (mem' := (mk x y)) 0 rfl ?_
  refine mS_steps (pc' := 2) (ls' := [.ref 245, .int p1, .int p2, .int (0 : Int32), mU, mU, mU, mU]) (st' := []) (mem' := (mk x y)) 2 rfl ?_
  refine f_X0_measure_L2_snd p1 p2 y _ ?_ mF (0 : Int32) x
  · intro x2
    refine mS_steps (pc' := 29) (ls' := [.ref 245, .int p1, .int p2, .int p2, .int p1, .int (1 : Int32), mU, mU]) (st' := []) (mem' := (mk x2 y)) 6 rfl ?_
    refine mS_forget [.ref 245, mU, mU, .int p2, .int p1, .int (1 : Int32), mU, mU] ⟨Or.inr rfl, Or.inl rfl, Or.inl rfl, Or.inr rfl, Or.inr rfl, Or.inr rfl, Or.inl rfl, Or.inl rfl, trivial⟩ ?_
    refine f_X0_measure_L29_snd y mF p2 p1 (1 : Int32) x2
def f_X0_nearest_L4 (a1 : Int32) : Nat → Int32 → Int32 → mX → Option Int32
  | 0, _, _, _ => none
  | n + 1, a2, a3, x => (if (8 : Int32) ≤ a3 then (some a2) else (if (f_X10_has a1 a3) = 0 then (f_X0_nearest_L4 a1 n a2 (a3 + (1 : Int32)) x) else (if m_in a3 8 = true then (if (x.1 250 a3.toNatClampNeg) ≤ 0 then (f_X0_nearest_L4 a1 n a2 (a3 + (1 : Int32)) x) else (if a2 = (-1 : Int32) then (f_X0_nearest_L4 a1 n a3 (a3 + (1 : Int32)) x) else (if m_in a3 8 = true then (if m_in a2 8 = true then (if (x.1 250 a2.toNatClampNeg) ≤ (x.1 250 a3.toNatClampNeg) then (f_X0_nearest_L4 a1 n a2 (a3 + (1 : Int32)) x) else (f_X0_nearest_L4 a1 n a3 (a3 + (1 : Int32)) x)) else none) else none))) else none)))
def f_X0_nearest (p1 : Int32) (x : mX) : Option Int32 := (f_X0_nearest_L4 p1 mF (-1 : Int32) (0 : Int32) x)
set_option maxRecDepth 20000 in
set_option maxHeartbeats 2000000 in
theorem f_X0_nearest_L4_snd {fm : Value} {L : Nat} {xs : Nat → Int32} (a1 : Int32) (x : mX) (y : mY) : ∀ (n : Nat) (a2 : Int32) (a3 : Int32), mS fm L xs (fun r : Int32 => (.int r, (mk x y))) pg_X0_nearest 4 [.ref 245, .int a1, .int a2, .int a3] [] (mk x y) (f_X0_nearest_L4 a1 n a2 a3 x) := by
  intro n
  induction n with
  | zero => intro a2 a3; exact mS_none
  | succ n ih =>
    intro a2 a3
    rw [f_X0_nearest_L4]
    refine mS_steps (pc' := 7) (ls' := [.ref 245, .int a1, .int a2, .int a3]) (st' := [.int (8 : Int32), .int a3]) (mem' := (mk x y)) 2 rfl ?_
    refine mS_ic3 rfl (fun _ => ?_) (fun _ => ?_)
    · refine mS_steps (pc' := 56) (ls' := [.ref 245, .int a1, .int a2, .int a3]) (st' := [.int a2]) (mem' := (mk x y)) 1 rfl ?_
      exact mS_reti ⟨_, _, _, _, _, rfl, rfl⟩ rfl
    · refine mS_steps (pc' := 12) (ls' := [.ref 245, .int a1, .int a2, .int a3]) (st' := [.int a3, .int a1]) (mem' := (mk x y)) 2 rfl ?_
      refine mS_call (q := (f_X10_has a1 a3)) 57 2 [.int a1, .int a3] [] rfl rfl rfl ⟨_, _, _, rfl, rfl⟩ (Nat.le_of_ble_eq_true rfl) (Nat.le_of_ble_eq_true rfl) rfl (f_X10_has_snd a1 a3 (mk x y)) ?_
      refine mS_steps (pc' := 15) (ls' := [.ref 245, .int a1, .int a2, .int a3]) (st' := [.int (f_X10_has a1 a3)]) (mem' := (mk x y)) 0 rfl ?_
      refine mS_if0 rfl (fun _ => ?_) (fun _ => ?_)
      · refine mS_steps (pc' := 4) (ls' := [.ref 245, .int a1, .int a2, .int (a3 + (1 : Int32))]) (st' := []) (mem' := (mk x y)) 2 rfl ?_
        exact ih a2 (a3 + (1 : Int32))
      · refine mS_steps (pc' := 23) (ls' := [.ref 245, .int a1, .int a2, .int a3]) (st' := [.int a3, .ref 250]) (mem' := (mk x y)) 3 rfl ?_
        refine mS_ald (b := 0) (n := 8) (z := (x.1 250 a3.toNatClampNeg)) rfl (by decide) rfl (by decide) rfl (fun _ => ?_)
        refine mS_if5 rfl (fun _ => ?_) (fun _ => ?_)
        · refine mS_steps (pc' := 4) (ls' := [.ref 245, .int a1, .int a2, .int (a3 + (1 : Int32))]) (st' := []) (mem' := (mk x y)) 2 rfl ?_
          exact ih a2 (a3 + (1 : Int32))
        · refine mS_steps (pc' := 29) (ls' := [.ref 245, .int a1, .int a2, .int a3]) (st' := [.int (-1 : Int32), .int a2]) (mem' := (mk x y)) 2 rfl ?_
          refine mS_ic0 rfl (fun _ => ?_) (fun _ => ?_)
          · refine mS_steps (pc' := 4) (ls' := [.ref 245, .int a1, .int a3, .int (a3 + (1 : Int32))]) (st' := []) (mem' := (mk x y)) 4 rfl ?_
            exact ih a3 (a3 + (1 : Int32))
          · refine mS_steps (pc' := 37) (ls' := [.ref 245, .int a1, .int a2, .int a3]) (st' := [.int a3, .ref 250]) (mem' := (mk x y)) 3 rfl ?_
            refine mS_ald (b := 0) (n := 8) (z := (x.1 250 a3.toNatClampNeg)) rfl (by decide) rfl (by decide) rfl (fun _ => ?_)
            refine mS_steps (pc' := 43) (ls' := [.ref 245, .int a1, .int a2, .int a3]) (st' := [.int a2, .ref 250, .int (x.1 250 a3.toNatClampNeg)]) (mem' := (mk x y)) 3 rfl ?_
            refine mS_ald (b := 0) (n := 8) (z := (x.1 250 a2.toNatClampNeg)) rfl (by decide) rfl (by decide) rfl (fun _ => ?_)
            refine mS_ic3 rfl (fun _ => ?_) (fun _ => ?_)
            · refine mS_steps (pc' := 4) (ls' := [.ref 245, .int a1, .int a2, .int (a3 + (1 : Int32))]) (st' := []) (mem' := (mk x y)) 2 rfl ?_
              exact ih a2 (a3 + (1 : Int32))
            · refine mS_steps (pc' := 4) (ls' := [.ref 245, .int a1, .int a3, .int (a3 + (1 : Int32))]) (st' := []) (mem' := (mk x y)) 4 rfl ?_
              exact ih a3 (a3 + (1 : Int32))
set_option maxRecDepth 20000 in
set_option maxHeartbeats 2000000 in
theorem f_X0_nearest_snd {fm : Value} {L : Nat} {xs : Nat → Int32} (p1 : Int32) (x : mX) (y : mY) : mS fm L xs (fun r : Int32 => (.int r, (mk x y))) pg_X0_nearest 0 (m_entry [.ref 245, .int p1] 4) [] (mk x y) ((f_X0_nearest p1 x)) := by
  unfold f_X0_nearest
  refine mS_steps (pc' := 0) (ls' := [.ref 245, .int p1, mU, mU]) (st' := []) (mem' := (mk x y)) 0 rfl ?_
  refine mS_steps (pc' := 4) (ls' := [.ref 245, .int p1, .int (-1 : Int32), .int (0 : Int32)]) (st' := []) (mem' := (mk x y)) 4 rfl ?_
  refine f_X0_nearest_L4_snd p1 x y mF (-1 : Int32) (0 : Int32)
def f_X0_lead_L77 (a1 : Int32) (a4 : Int32) : Nat → Int32 → Int32 → Int32 → mX → Option mX
  | 0, _, _, _, _ => none
  | n + 1, a3, a5, a6, x => (if (8 : Int32) ≤ a6 then (some x) else (if a5 = 0 then (some x) else ((f_X0_enter a3 x).bind fun q8 => (m_jn (fun x10 => (if m_in a3 8 = true then ((f_X10_lowest ((x10.1 248 a3.toNatClampNeg) &&& a4)).bind fun q11 => (m_jn (fun w13 => (if w13 = (-1 : Int32) then (some x10) else ((f_X0_goOver a3 w13 x10).bind fun q14 => (if q11 = (-1 : Int32) then (f_X0_lead_L77 a1 a4 n w13 (1 : Int32) (a6 + (1 : Int32)) q14) else (f_X0_lead_L77 a1 a4 n w13 (0 : Int32) (a6 + (1 : Int32)) q14))))) (fun j12 => if q11 = (-1 : Int32) then (if m_in a3 8 = true then ((f_X0_nearest (((x10.1 248 a3.toNatClampNeg) &&& a1) &&& ((x10.1 245 7) ^^^ (-1 : Int32))) x10).bind fun q15 => (j12 q15)) else none) else (j12 q11)))) else none)) (fun j9 => if a6 = 0 then ((f_X0_measure (a1 &&& ((q8.1 245 7) ^^^ (-1 : Int32))) a4 q8).bind fun q16 => (j9 q16)) else (j9 q8))))))
def f_X0_lead (p1 : Int32) (p2 : Int32) (x : mX) : Option mX := (if m_in p2 8 = true then ((f_X10_lowest (x.1 248 p2.toNatClampNeg)).bind fun q1 => (if q1 = (-1 : Int32) then (some x) else ((f_X0_putCell p2 x).bind fun q2 => ((f_X0_goOver p2 q1 q2).bind fun q3 => (m_jn (fun w5 => (m_jn (fun w7 => (f_X0_lead_L77 p1 w5 mF q1 w7 (0 : Int32) q3)) (fun j6 => if (f_X10_has (q3.1 245 7) q1) = 0 then (j6 (1 : Int32)) else (j6 (0 : Int32))))) (fun j4 => if (q3.1 245 7) = ((1 : Int32) <<< (p2 &&& 31)) then (j4 (q3.1 245 7)) else (j4 ((q3.1 245 7) &&& (((1 : Int32) <<< (p2 &&& 31)) ^^^ (-1 : Int32)))))))))) else none)
set_option maxRecDepth 20000 in
set_option maxHeartbeats 2000000 in
theorem f_X0_lead_L77_snd {fm : Value} {L : Nat} {xs : Nat → Int32} (a1 : Int32) (a4 : Int32) (y : mY) : ∀ (n : Nat) (a3 : Int32) (a5 : Int32) (a6 : Int32) (x : mX), mS fm L xs (fun r : mX => (mU, mk r y)) pg_X0_lead 77 [.ref 245, .int a1, mU, .int a3, .int a4, .int a5, .int a6, mU, mU] [] (mk x y) (f_X0_lead_L77 a1 a4 n a3 a5 a6 x) := by
  intro n
  induction n with
  | zero => intro a3 a5 a6 x; exact mS_none
  | succ n ih =>
    intro a3 a5 a6 x
    rw [f_X0_lead_L77]
    refine mS_steps (pc' := 81) (ls' := [.ref 245, .int a1, mU, .int a3, .int a4, .int a5, .int a6, mU, mU]) (st' := [.int (8 : Int32), .int a6]) (mem' := (mk x y)) 2 rfl ?_
    refine mS_ic3 rfl (fun _ => ?_) (fun _ => ?_)
    · exact mS_retv ⟨_, _, _, _, _, rfl⟩ rfl
    · refine mS_steps (pc' := 86) (ls' := [.ref 245, .int a1, mU, .int a3, .int a4, .int a5, .int a6, mU, mU]) (st' := [.int a5]) (mem' := (mk x y)) 1 rfl ?_
      refine mS_if0 rfl (fun _ => ?_) (fun _ => ?_)
      · exact mS_retv ⟨_, _, _, _, _, rfl⟩ rfl
      · refine mS_steps (pc' := 91) (ls' := [.ref 245, .int a1, mU, .int a3, .int a4, .int a5, .int a6, mU, mU]) (st' := [.int a3, .ref 245]) (mem' := (mk x y)) 2 rfl ?_
        refine mS_bind (fun q8 hq8 => mS_call 213 2 [.ref 245, .int a3] [] rfl rfl rfl ⟨_, _, _, rfl, rfl⟩ (Nat.le_of_ble_eq_true rfl) (Nat.le_of_ble_eq_true rfl) hq8 (f_X0_enter_snd a3 x y) ?_)
        refine mS_steps (pc' := 96) (ls' := [.ref 245, .int a1, mU, .int a3, .int a4, .int a5, .int a6, mU, mU]) (st' := [.int a6]) (mem' := (mk q8 y)) 1 rfl ?_
        refine mS_jn (fun j => ∀ z : mX, mS fm L xs (fun r : mX => (mU, mk r y)) pg_X0_lead 113 [.ref 245, .int a1, mU, .int a3, .int a4, mU, .int a6, mU, mU] [] (mk z y) (j z)) ?_ ?_
        · intro z
          revert z; intro x10
          refine mS_steps (pc' := 118) (ls' := [.ref 245, .int a1, mU, .int a3, .int a4, mU, .int a6, mU, mU]) (st' := [.int a3, .ref 248]) (mem' := (mk x10 y)) 3 rfl ?_
          refine mS_ald (b := 0) (n := 8) (z := (x10.1 248 a3.toNatClampNeg)) rfl (by decide) rfl (by decide) rfl (fun _ => ?_)
          refine mS_steps (pc' := 122) (ls' := [.ref 245, .int a1, mU, .int a3, .int a4, mU, .int a6, mU, mU]) (st' := [.int ((x10.1 248 a3.toNatClampNeg) &&& a4)]) (mem' := (mk x10 y)) 2 rfl ?_
          refine mS_bind (fun q11 hq11 => mS_call 126 1 [.int ((x10.1 248 a3.toNatClampNeg) &&& a4)] [] rfl rfl rfl ⟨_, _, _, rfl, rfl⟩ (Nat.le_of_ble_eq_true rfl) (Nat.le_of_ble_eq_true rfl) hq11 (f_X10_lowest_snd ((x10.1 248 a3.toNatClampNeg) &&& a4) (mk x10 y)) ?_)
          refine mS_steps (pc' := 130) (ls' := [.ref 245, .int a1, mU, .int a3, .int a4, mU, .int a6, .int q11, mU]) (st' := [.int (-1 : Int32), .int q11]) (mem' := (mk x10 y)) 3 rfl ?_
          refine mS_jn (fun j => ∀ z : Int32, mS fm L xs (fun r : mX => (mU, mk r y)) pg_X0_lead 157 [.ref 245, .int a1, mU, .int a3, .int a4, mU, .int a6, .int q11, mU] [.int z] (mk x10 y) (j z)) ?_ ?_
          · intro z
            revert z; intro w13
            refine mS_steps (pc' := 162) (ls' := [.ref 245, .int a1, mU, .int a3, .int a4, mU, .int a6, .int q11, .int w13]) (st' := [.int (-1 : Int32), .int w13]) (mem' := (mk x10 y)) 3 rfl ?_
            refine mS_ic1 rfl (fun _ => ?_) (fun _ => ?_)
            · refine mS_steps (pc' := 197) (ls' := [.ref 245, .int a1, mU, .int a3, .int a4, mU, .int a6, .int q11, .int w13]) (st' := []) (mem' := (mk x10 y)) 1 rfl ?_
              exact mS_retv ⟨_, _, _, _, _, rfl⟩ rfl
            · refine mS_steps (pc' := 172) (ls' := [.ref 245, .int a1, mU, .int a3, .int a4, mU, .int a6, .int q11, .int w13]) (st' := [.int w13, .int a3, .ref 245]) (mem' := (mk x10 y)) 3 rfl ?_
              refine mS_bind (fun q14 hq14 => mS_call 216 3 [.ref 245, .int a3, .int w13] [] rfl rfl rfl ⟨_, _, _, rfl, rfl⟩ (Nat.le_of_ble_eq_true rfl) (Nat.le_of_ble_eq_true rfl) hq14 (f_X0_goOver_snd a3 w13 x10 y) ?_)
              refine mS_steps (pc' := 181) (ls' := [.ref 245, .int a1, mU, .int w13, .int a4, mU, .int a6, .int q11, .int w13]) (st' := [.int (-1 : Int32), .int q11]) (mem' := (mk q14 y)) 4 rfl ?_
              refine mS_ic1 rfl (fun _ => ?_) (fun _ => ?_)
              · refine mS_steps (pc' := 77) (ls' := [.ref 245, .int a1, mU, .int w13, .int a4, .int (1 : Int32), .int (a6 + (1 : Int32)), .int q11, .int w13]) (st' := []) (mem' := (mk q14 y)) 5 rfl ?_
                refine mS_forget [.ref 245, .int a1, mU, .int w13, .int a4, .int (1 : Int32), .int (a6 + (1 : Int32)), mU, mU] ⟨Or.inr rfl, Or.inr rfl, Or.inl rfl, Or.inr rfl, Or.inr rfl, Or.inr rfl, Or.inr rfl, Or.inl rfl, Or.inl rfl, trivial⟩ ?_
                exact ih w13 (1 : Int32) (a6 + (1 : Int32)) q14
              · refine mS_steps (pc' := 77) (ls' := [.ref 245, .int a1, mU, .int w13, .int a4, .int (0 : Int32), .int (a6 + (1 : Int32)), .int q11, .int w13]) (st' := []) (mem' := (mk q14 y)) 4 rfl ?_
                refine mS_forget [.ref 245, .int a1, mU, .int w13, .int a4, .int (0 : Int32), .int (a6 + (1 : Int32)), mU, mU] ⟨Or.inr rfl, Or.inr rfl, Or.inl rfl, Or.inr rfl, Or.inr rfl, Or.inr rfl, Or.inr rfl, Or.inl rfl, Or.inl rfl, trivial⟩ ?_
                exact ih w13 (0 : Int32) (a6 + (1 : Int32)) q14
          intro j12 hj12
          refine mS_ic0 rfl (fun _ => ?_) (fun _ => ?_)
          · refine mS_steps (pc' := 144) (ls' := [.ref 245, .int a1, mU, .int a3, .int a4, mU, .int a6, .int q11, mU]) (st' := [.int a3, .ref 248, .ref 245]) (mem' := (mk x10 y)) 4 rfl ?_
            refine mS_ald (b := 0) (n := 8) (z := (x10.1 248 a3.toNatClampNeg)) rfl (by decide) rfl (by decide) rfl (fun _ => ?_)
            refine mS_steps (pc' := 154) (ls' := [.ref 245, .int a1, mU, .int a3, .int a4, mU, .int a6, .int q11, mU]) (st' := [.int (((x10.1 248 a3.toNatClampNeg) &&& a1) &&& ((x10.1 245 7) ^^^ (-1 : Int32))), .ref 245]) (mem' := (mk x10 y)) 7 rfl ?_
            refine mS_bind (fun q15 hq15 => mS_call 218 2 [.ref 245, .int (((x10.1 248 a3.toNatClampNeg) &&& a1) &&& ((x10.1 245 7) ^^^ (-1 : Int32)))] [] rfl rfl rfl ⟨_, _, _, rfl, rfl⟩ (Nat.le_of_ble_eq_true rfl) (Nat.le_of_ble_eq_true rfl) hq15 (f_X0_nearest_snd (((x10.1 248 a3.toNatClampNeg) &&& a1) &&& ((x10.1 245 7) ^^^ (-1 : Int32))) x10 y) ?_)
            refine mS_steps (pc' := 157) (ls' := [.ref 245, .int a1, mU, .int a3, .int a4, mU, .int a6, .int q11, mU]) (st' := [.int q15]) (mem' := (mk x10 y)) 0 rfl ?_
            exact hj12 q15
          · refine mS_steps (pc' := 157) (ls' := [.ref 245, .int a1, mU, .int a3, .int a4, mU, .int a6, .int q11, mU]) (st' := [.int q11]) (mem' := (mk x10 y)) 2 rfl ?_
            exact hj12 q11
        intro j9 hj9
        refine mS_if1 rfl (fun _ => ?_) (fun _ => ?_)
        · refine mS_steps (pc' := 110) (ls' := [.ref 245, .int a1, mU, .int a3, .int a4, .int a5, .int a6, mU, mU]) (st' := [.int a4, .int (a1 &&& ((q8.1 245 7) ^^^ (-1 : Int32))), .ref 245]) (mem' := (mk q8 y)) 8 rfl ?_
          refine mS_bind (fun q16 hq16 => mS_call 217 3 [.ref 245, .int (a1 &&& ((q8.1 245 7) ^^^ (-1 : Int32))), .int a4] [] rfl rfl rfl ⟨_, _, _, rfl, rfl⟩ (Nat.le_of_ble_eq_true rfl) (Nat.le_of_ble_eq_true rfl) hq16 (f_X0_measure_snd (a1 &&& ((q8.1 245 7) ^^^ (-1 : Int32))) a4 q8 y) ?_)
          refine mS_steps (pc' := 113) (ls' := [.ref 245, .int a1, mU, .int a3, .int a4, .int a5, .int a6, mU, mU]) (st' := []) (mem' := (mk q16 y)) 0 rfl ?_
          refine mS_forget [.ref 245, .int a1, mU, .int a3, .int a4, mU, .int a6, mU, mU] ⟨Or.inr rfl, Or.inr rfl, Or.inl rfl, Or.inr rfl, Or.inr rfl, Or.inl rfl, Or.inr rfl, Or.inl rfl, Or.inl rfl, trivial⟩ ?_
          exact hj9 q16
        · refine mS_forget [.ref 245, .int a1, mU, .int a3, .int a4, mU, .int a6, mU, mU] ⟨Or.inr rfl, Or.inr rfl, Or.inl rfl, Or.inr rfl, Or.inr rfl, Or.inl rfl, Or.inr rfl, Or.inl rfl, Or.inl rfl, trivial⟩ ?_
          exact hj9 q8
set_option maxRecDepth 20000 in
set_option maxHeartbeats 2000000 in
theorem f_X0_lead_snd {fm : Value} {L : Nat} {xs : Nat → Int32} (p1 : Int32) (p2 : Int32) (x : mX) (y : mY) : mS fm L xs (fun r : mX => (mU, mk r y)) pg_X0_lead 0 (m_entry [.ref 245, .int p1, .int p2] 9) [] (mk x y) ((f_X0_lead p1 p2 x)) := by
  unfold f_X0_lead
  refine mS_steps (pc' := 0) (ls' := [.ref 245, .int p1, .int p2, mU, mU, mU, mU, mU, mU]) (st' := []) (mem' := (mk x y)) 0 rfl ?_
  refine mS_steps (pc' := 5) (ls' := [.ref 245, .int p1, .int p2, mU, mU, mU, mU, mU, mU]) (st' := [.int p2, .ref 248]) (mem' := (mk x y)) 3 rfl ?_
  refine mS_ald (b := 0) (n := 8) (z := (x.1 248 p2.toNatClampNeg)) rfl (by decide) rfl (by decide) rfl (fun _ => ?_)
  refine mS_bind (fun q1 hq1 => mS_call 126 1 [.int (x.1 248 p2.toNatClampNeg)] [] rfl rfl rfl ⟨_, _, _, rfl, rfl⟩ (Nat.le_of_ble_eq_true rfl) (Nat.le_of_ble_eq_true rfl) hq1 (f_X10_lowest_snd (x.1 248 p2.toNatClampNeg) (mk x y)) ?_)
  refine mS_steps (pc' := 12) (ls' := [.ref 245, .int p1, .int p2, .int q1, mU, mU, mU, mU, mU]) (st' := [.int (-1 : Int32), .int q1]) (mem' := (mk x y)) 3 rfl ?_
  refine mS_ic1 rfl (fun _ => ?_) (fun _ => ?_)
  · exact mS_retv ⟨_, _, _, _, _, rfl⟩ rfl
  · refine mS_steps (pc' := 18) (ls' := [.ref 245, .int p1, .int p2, .int q1, mU, mU, mU, mU, mU]) (st' := [.int p2, .ref 245]) (mem' := (mk x y)) 2 rfl ?_
    refine mS_bind (fun q2 hq2 => mS_call 215 2 [.ref 245, .int p2] [] rfl rfl rfl ⟨_, _, _, rfl, rfl⟩ (Nat.le_of_ble_eq_true rfl) (Nat.le_of_ble_eq_true rfl) hq2 (f_X0_putCell_snd p2 x y) ?_)
    refine mS_steps (pc' := 24) (ls' := [.ref 245, .int p1, .int p2, .int q1, mU, mU, mU, mU, mU]) (st' := [.int q1, .int p2, .ref 245]) (mem' := (mk q2 y)) 3 rfl ?_
    refine mS_bind (fun q3 hq3 => mS_call 216 3 [.ref 245, .int p2, .int q1] [] rfl rfl rfl ⟨_, _, _, rfl, rfl⟩ (Nat.le_of_ble_eq_true rfl) (Nat.le_of_ble_eq_true rfl) hq3 (f_X0_goOver_snd p2 q1 q2 y) ?_)
    refine mS_steps (pc' := 34) (ls' := [.ref 245, .int p1, .int p2, .int q1, mU, mU, mU, mU, mU]) (st' := [.int ((1 : Int32) <<< (p2 &&& 31)), .int (q3.1 245 7)]) (mem' := (mk q3 y)) 5 rfl ?_
    refine mS_jn (fun j => ∀ z : Int32, mS fm L xs (fun r : mX => (mU, mk r y)) pg_X0_lead 54 [.ref 245, .int p1, mU, .int q1, mU, mU, mU, mU, mU] [.int z] (mk q3 y) (j z)) ?_ ?_
    · intro z
      revert z; intro w5
      refine mS_steps (pc' := 61) (ls' := [.ref 245, .int p1, mU, .int q1, .int w5, mU, mU, mU, mU]) (st' := [.int q1, .int (q3.1 245 7)]) (mem' := (mk q3 y)) 4 rfl ?_
      refine mS_call (q := (f_X10_has (q3.1 245 7) q1)) 57 2 [.int (q3.1 245 7), .int q1] [] rfl rfl rfl ⟨_, _, _, rfl, rfl⟩ (Nat.le_of_ble_eq_true rfl) (Nat.le_of_ble_eq_true rfl) rfl (f_X10_has_snd (q3.1 245 7) q1 (mk q3 y)) ?_
      refine mS_steps (pc' := 64) (ls' := [.ref 245, .int p1, mU, .int q1, .int w5, mU, mU, mU, mU]) (st' := [.int (f_X10_has (q3.1 245 7) q1)]) (mem' := (mk q3 y)) 0 rfl ?_
      refine mS_jn (fun j => ∀ z : Int32, mS fm L xs (fun r : mX => (mU, mk r y)) pg_X0_lead 72 [.ref 245, .int p1, mU, .int q1, .int w5, mU, mU, mU, mU] [.int z] (mk q3 y) (j z)) ?_ ?_
      · intro z
        revert z; intro w7
        refine mS_steps (pc' := 77) (ls' := [.ref 245, .int p1, mU, .int q1, .int w5, .int w7, .int (0 : Int32), mU, mU]) (st' := []) (mem' := (mk q3 y)) 3 rfl ?_
        refine f_X0_lead_L77_snd p1 w5 y mF q1 w7 (0 : Int32) q3
      intro j6 hj6
      refine mS_if1 rfl (fun _ => ?_) (fun _ => ?_)
      · refine mS_steps (pc' := 72) (ls' := [.ref 245, .int p1, mU, .int q1, .int w5, mU, mU, mU, mU]) (st' := [.int (1 : Int32)]) (mem' := (mk q3 y)) 2 rfl ?_
        exact hj6 (1 : Int32)
      · refine mS_steps (pc' := 72) (ls' := [.ref 245, .int p1, mU, .int q1, .int w5, mU, mU, mU, mU]) (st' := [.int (0 : Int32)]) (mem' := (mk q3 y)) 1 rfl ?_
        exact hj6 (0 : Int32)
    intro j4 hj4
    refine mS_ic1 rfl (fun _ => ?_) (fun _ => ?_)
    · refine mS_steps (pc' := 54) (ls' := [.ref 245, .int p1, .int p2, .int q1, mU, mU, mU, mU, mU]) (st' := [.int (q3.1 245 7)]) (mem' := (mk q3 y)) 3 rfl ?_
      refine mS_forget [.ref 245, .int p1, mU, .int q1, mU, mU, mU, mU, mU] ⟨Or.inr rfl, Or.inr rfl, Or.inl rfl, Or.inr rfl, Or.inl rfl, Or.inl rfl, Or.inl rfl, Or.inl rfl, Or.inl rfl, trivial⟩ ?_
      exact hj4 (q3.1 245 7)
    · refine mS_steps (pc' := 54) (ls' := [.ref 245, .int p1, .int p2, .int q1, mU, mU, mU, mU, mU]) (st' := [.int ((q3.1 245 7) &&& (((1 : Int32) <<< (p2 &&& 31)) ^^^ (-1 : Int32)))]) (mem' := (mk q3 y)) 8 rfl ?_
      refine mS_forget [.ref 245, .int p1, mU, .int q1, mU, mU, mU, mU, mU] ⟨Or.inr rfl, Or.inr rfl, Or.inl rfl, Or.inr rfl, Or.inl rfl, Or.inl rfl, Or.inl rfl, Or.inl rfl, Or.inl rfl, trivial⟩ ?_
      exact hj4 ((q3.1 245 7) &&& (((1 : Int32) <<< (p2 &&& 31)) ^^^ (-1 : Int32)))
def f_X0_trace_L23 (a2 : Int32) : Nat → Int32 → mX → (mX → Option mX) → Option mX
  | 0, _, _, _ => none
  | n + 1, a4, x, k65 => (if (8 : Int32) ≤ a4 then (k65 x) else (if (f_X10_has a2 a4) = 0 then (if m_in a4 8 = true then (m_let (m_xs x 248 a4.toNatClampNeg (0 : Int32)) fun x5 => (f_X0_trace_L23 a2 n (a4 + (1 : Int32)) x5 k65)) else none) else (if m_in a4 8 = true then (if m_in a4 8 = true then (m_let (m_xs x 248 a4.toNatClampNeg ((x.1 229 a4.toNatClampNeg) &&& a2)) fun x6 => (f_X0_trace_L23 a2 n (a4 + (1 : Int32)) x6 k65)) else none) else none)))
def f_X0_trace_L73 (a2 : Int32) : Nat → Int32 → mX → Option mX
  | 0, _, _ => none
  | n + 1, a4, x => (if (16 : Int32) ≤ a4 then (some x) else ((f_X0_firstLoose x).bind fun q9 => (if q9 = (-1 : Int32) then (some x) else (if m_in a4 17 = true then (m_let (m_xs x 247 a4.toNatClampNeg (x.1 245 1)) fun x10 => (m_let (m_xs x10 245 0 (a4 + (1 : Int32))) fun x11 => ((f_X0_lead a2 q9 x11).bind fun q12 => (f_X0_trace_L73 a2 n (a4 + (1 : Int32)) q12)))) else none))))
def f_X0_trace (p2 : Int32) (p3 : Int32) (x : mX) : Option mX := (m_let (m_xs x 245 0 (0 : Int32)) fun x1 => (m_let (m_xs x1 245 1 (0 : Int32)) fun x2 => (m_let (m_xs x2 245 7 (0 : Int32)) fun x3 => (m_let (m_xs x3 245 6 (0 : Int32)) fun x4 => (f_X0_trace_L23 p2 mF (0 : Int32) x4 (fun x7 => ((f_X0_enter p3 x7).bind fun q8 => (f_X0_trace_L73 p2 mF (0 : Int32) q8))))))))
set_option maxRecDepth 20000 in
set_option maxHeartbeats 2000000 in
theorem f_X0_trace_L23_snd {fm : Value} {L : Nat} {xs : Nat → Int32} (a2 : Int32) (a3 : Int32) (y : mY) (k65 : mX → Option mX) (hk65 : ∀ (z0 : mX), mS fm L xs (fun r : mX => (mU, mk r y)) pg_X0_trace 65 [.ref 245, mU, .int a2, .int a3, mU, mU] [] (mk z0 y) (k65 z0)) : ∀ (n : Nat) (a4 : Int32) (x : mX), mS fm L xs (fun r : mX => (mU, mk r y)) pg_X0_trace 23 [.ref 245, .ref 228, .int a2, .int a3, .int a4, mU] [] (mk x y) (f_X0_trace_L23 a2 n a4 x k65) := by
  intro n
  induction n with
  | zero => intro a4 x; exact mS_none
  | succ n ih =>
    intro a4 x
    rw [f_X0_trace_L23]
    refine mS_steps (pc' := 27) (ls' := [.ref 245, .ref 228, .int a2, .int a3, .int a4, mU]) (st' := [.int (8 : Int32), .int a4]) (mem' := (mk x y)) 2 rfl ?_
    refine mS_ic3 rfl (fun _ => ?_) (fun _ => ?_)
    · refine mS_forget [.ref 245, mU, .int a2, .int a3, mU, mU] ⟨Or.inr rfl, Or.inl rfl, Or.inr rfl, Or.inr rfl, Or.inl rfl, Or.inl rfl, trivial⟩ ?_
      exact hk65 x
    · refine mS_steps (pc' := 39) (ls' := [.ref 245, .ref 228, .int a2, .int a3, .int a4, mU]) (st' := [.int a4, .int a2, .int a4, .ref 248]) (mem' := (mk x y)) 5 rfl ?_
      refine mS_call (q := (f_X10_has a2 a4)) 57 2 [.int a2, .int a4] [.int a4, .ref 248] rfl rfl rfl ⟨_, _, _, rfl, rfl⟩ (Nat.le_of_ble_eq_true rfl) (Nat.le_of_ble_eq_true rfl) rfl (f_X10_has_snd a2 a4 (mk x y)) ?_
      refine mS_steps (pc' := 42) (ls' := [.ref 245, .ref 228, .int a2, .int a3, .int a4, mU]) (st' := [.int (f_X10_has a2 a4), .int a4, .ref 248]) (mem' := (mk x y)) 0 rfl ?_
      refine mS_if0 rfl (fun _ => ?_) (fun _ => ?_)
      · refine mS_steps (pc' := 58) (ls' := [.ref 245, .ref 228, .int a2, .int a3, .int a4, mU]) (st' := [.int (0 : Int32), .int a4, .ref 248]) (mem' := (mk x y)) 1 rfl ?_
        refine mS_ast0x (n := 8) rfl rfl (by decide) (fun _ => ?_)
        refine mS_letx (fun x5 => ?_)
        refine mS_steps (pc' := 23) (ls' := [.ref 245, .ref 228, .int a2, .int a3, .int (a4 + (1 : Int32)), mU]) (st' := []) (mem' := (mk x5 y)) 2 rfl ?_
        exact ih (a4 + (1 : Int32)) x5
      · refine mS_steps (pc' := 51) (ls' := [.ref 245, .ref 228, .int a2, .int a3, .int a4, mU]) (st' := [.int a4, .ref 229, .int a4, .ref 248]) (mem' := (mk x y)) 3 rfl ?_
        refine mS_ald (b := 0) (n := 8) (z := (x.1 229 a4.toNatClampNeg)) rfl (by decide) rfl (by decide) rfl (fun _ => ?_)
        refine mS_steps (pc' := 58) (ls' := [.ref 245, .ref 228, .int a2, .int a3, .int a4, mU]) (st' := [.int ((x.1 229 a4.toNatClampNeg) &&& a2), .int a4, .ref 248]) (mem' := (mk x y)) 3 rfl ?_
        refine mS_ast0x (n := 8) rfl rfl (by decide) (fun _ => ?_)
        refine mS_letx (fun x6 => ?_)
        refine mS_steps (pc' := 23) (ls' := [.ref 245, .ref 228, .int a2, .int a3, .int (a4 + (1 : Int32)), mU]) (st' := []) (mem' := (mk x6 y)) 2 rfl ?_
        exact ih (a4 + (1 : Int32)) x6
set_option maxRecDepth 20000 in
set_option maxHeartbeats 2000000 in
theorem f_X0_trace_L73_snd {fm : Value} {L : Nat} {xs : Nat → Int32} (a2 : Int32) (y : mY) : ∀ (n : Nat) (a4 : Int32) (x : mX), mS fm L xs (fun r : mX => (mU, mk r y)) pg_X0_trace 73 [.ref 245, mU, .int a2, mU, .int a4, mU] [] (mk x y) (f_X0_trace_L73 a2 n a4 x) := by
  intro n
  induction n with
  | zero => intro a4 x; exact mS_none
  | succ n ih =>
    intro a4 x
    rw [f_X0_trace_L73]
    refine mS_steps (pc' := 77) (ls' := [.ref 245, mU, .int a2, mU, .int a4, mU]) (st' := [.int (16 : Int32), .int a4]) (mem' := (mk x y)) 2 rfl ?_
    refine mS_ic3 rfl (fun _ => ?_) (fun _ => ?_)
    · exact mS_retv ⟨_, _, _, _, _, rfl⟩ rfl
    · refine mS_steps (pc' := 81) (ls' := [.ref 245, mU, .int a2, mU, .int a4, mU]) (st' := [.ref 245]) (mem' := (mk x y)) 1 rfl ?_
      refine mS_bind (fun q9 hq9 => mS_call 214 1 [.ref 245] [] rfl rfl rfl ⟨_, _, _, rfl, rfl⟩ (Nat.le_of_ble_eq_true rfl) (Nat.le_of_ble_eq_true rfl) hq9 (f_X0_firstLoose_snd  x y) ?_)
      refine mS_steps (pc' := 89) (ls' := [.ref 245, mU, .int a2, mU, .int a4, .int q9]) (st' := [.int (-1 : Int32), .int q9]) (mem' := (mk x y)) 3 rfl ?_
      refine mS_ic1 rfl (fun _ => ?_) (fun _ => ?_)
      · refine mS_steps (pc' := 127) (ls' := [.ref 245, mU, .int a2, mU, .int a4, .int q9]) (st' := []) (mem' := (mk x y)) 1 rfl ?_
        exact mS_retv ⟨_, _, _, _, _, rfl⟩ rfl
      · refine mS_steps (pc' := 105) (ls' := [.ref 245, mU, .int a2, mU, .int a4, .int q9]) (st' := [.int (x.1 245 1), .int a4, .ref 247]) (mem' := (mk x y)) 5 rfl ?_
        refine mS_ast0x (n := 17) rfl rfl (by decide) (fun _ => ?_)
        refine mS_letx (fun x10 => ?_)
        refine mS_steps (pc' := 111) (ls' := [.ref 245, mU, .int a2, mU, .int a4, .int q9]) (st' := [.int (a4 + (1 : Int32)), .ref 245]) (mem' := (mk x10 y)) 4 rfl ?_
        refine mS_putx rfl rfl (by decide) rfl ?_
        refine mS_letx (fun x11 => ?_)
        refine mS_steps (pc' := 118) (ls' := [.ref 245, mU, .int a2, mU, .int a4, .int q9]) (st' := [.int q9, .int a2, .ref 245]) (mem' := (mk x11 y)) 3 rfl ?_
        refine mS_bind (fun q12 hq12 => mS_call 219 3 [.ref 245, .int a2, .int q9] [] rfl rfl rfl ⟨_, _, _, rfl, rfl⟩ (Nat.le_of_ble_eq_true rfl) (Nat.le_of_ble_eq_true rfl) hq12 (f_X0_lead_snd a2 q9 x11 y) ?_)
        refine mS_steps (pc' := 73) (ls' := [.ref 245, mU, .int a2, mU, .int (a4 + (1 : Int32)), .int q9]) (st' := []) (mem' := (mk q12 y)) 2 rfl ?_
        refine mS_forget [.ref 245, mU, .int a2, mU, .int (a4 + (1 : Int32)), mU] ⟨Or.inr rfl, Or.inl rfl, Or.inr rfl, Or.inl rfl, Or.inr rfl, Or.inl rfl, trivial⟩ ?_
        exact ih (a4 + (1 : Int32)) q12
set_option maxRecDepth 20000 in
set_option maxHeartbeats 2000000 in
theorem f_X0_trace_snd {fm : Value} {L : Nat} {xs : Nat → Int32} (p2 : Int32) (p3 : Int32) (x : mX) (y : mY) : mS fm L xs (fun r : mX => (mU, mk r y)) pg_X0_trace 0 (m_entry [.ref 245, .ref 228, .int p2, .int p3] 6) [] (mk x y) ((f_X0_trace p2 p3 x)) := by
  unfold f_X0_trace
  refine mS_steps (pc' := 0) (ls' := [.ref 245, .ref 228, .int p2, .int p3, mU, mU]) (st' := []) (mem' := (mk x y)) 0 rfl ?_
  refine mS_steps (pc' := 2) (ls' := [.ref 245, .ref 228, .int p2, .int p3, mU, mU]) (st' := [.int (0 : Int32), .ref 245]) (mem' := (mk x y)) 2 rfl ?_
  refine mS_putx rfl rfl (by decide) rfl ?_
  refine mS_letx (fun x1 => ?_)
  refine mS_steps (pc' := 7) (ls' := [.ref 245, .ref 228, .int p2, .int p3, mU, mU]) (st' := [.int (0 : Int32), .ref 245]) (mem' := (mk x1 y)) 2 rfl ?_
  refine mS_putx rfl rfl (by decide) rfl ?_
  refine mS_letx (fun x2 => ?_)
  refine mS_steps (pc' := 12) (ls' := [.ref 245, .ref 228, .int p2, .int p3, mU, mU]) (st' := [.int (0 : Int32), .ref 245]) (mem' := (mk x2 y)) 2 rfl ?_
  refine mS_putx rfl rfl (by decide) rfl ?_
  refine mS_letx (fun x3 => ?_)
  refine mS_steps (pc' := 17) (ls' := [.ref 245, .ref 228, .int p2, .int p3, mU, mU]) (st' := [.int (0 : Int32), .ref 245]) (mem' := (mk x3 y)) 2 rfl ?_
  refine mS_putx rfl rfl (by decide) rfl ?_
  refine mS_letx (fun x4 => ?_)
  refine mS_steps (pc' := 23) (ls' := [.ref 245, .ref 228, .int p2, .int p3, .int (0 : Int32), mU]) (st' := []) (mem' := (mk x4 y)) 2 rfl ?_
  refine f_X0_trace_L23_snd p2 p3 y _ ?_ mF (0 : Int32) x4
  · intro x7
    refine mS_steps (pc' := 67) (ls' := [.ref 245, mU, .int p2, .int p3, mU, mU]) (st' := [.int p3, .ref 245]) (mem' := (mk x7 y)) 2 rfl ?_
    refine mS_bind (fun q8 hq8 => mS_call 213 2 [.ref 245, .int p3] [] rfl rfl rfl ⟨_, _, _, rfl, rfl⟩ (Nat.le_of_ble_eq_true rfl) (Nat.le_of_ble_eq_true rfl) hq8 (f_X0_enter_snd p3 x7 y) ?_)
    refine mS_steps (pc' := 73) (ls' := [.ref 245, mU, .int p2, .int p3, .int (0 : Int32), mU]) (st' := []) (mem' := (mk q8 y)) 2 rfl ?_
    refine mS_forget [.ref 245, mU, .int p2, mU, .int (0 : Int32), mU] ⟨Or.inr rfl, Or.inl rfl, Or.inr rfl, Or.inl rfl, Or.inr rfl, Or.inl rfl, trivial⟩ ?_
    refine f_X0_trace_L73_snd p2 y mF (0 : Int32) q8
def f_X0_at (p1 : Int32) (p2 : Int32) (x : mX) : Option Int32 := (if p1 < 0 then (some (-1 : Int32)) else (if (x.1 245 0) ≤ p1 then (some (-1 : Int32)) else (if p1 < (16 : Int32) then (m_jn (fun w2 => (if m_in p1 17 = true then (if p2 = (-1 : Int32) then (some (w2 - (x.1 247 p1.toNatClampNeg))) else (if p2 < 0 then (some (-1 : Int32)) else (if (w2 - (x.1 247 p1.toNatClampNeg)) ≤ p2 then (some (-1 : Int32)) else (if m_in p1 17 = true then (if (48 : Int32) ≤ ((x.1 247 p1.toNatClampNeg) + p2) then (some (-1 : Int32)) else (if m_in p1 17 = true then (if m_in ((x.1 247 p1.toNatClampNeg) + p2) 48 = true then (some (x.1 246 ((x.1 247 p1.toNatClampNeg) + p2).toNatClampNeg)) else none) else none)) else none)))) else none)) (fun j1 => if (x.1 245 0) ≤ (p1 + (1 : Int32)) then (j1 (x.1 245 1)) else (if m_in (p1 + (1 : Int32)) 17 = true then (j1 (x.1 247 (p1 + (1 : Int32)).toNatClampNeg)) else none))) else (some (-1 : Int32)))))
set_option maxRecDepth 20000 in
set_option maxHeartbeats 2000000 in
theorem f_X0_at_snd {fm : Value} {L : Nat} {xs : Nat → Int32} (p1 : Int32) (p2 : Int32) (x : mX) (y : mY) : mS fm L xs (fun r : Int32 => (.int r, (mk x y))) pg_X0_at 0 (m_entry [.ref 245, .int p1, .int p2] 4) [] (mk x y) ((f_X0_at p1 p2 x)) := by
  unfold f_X0_at
  refine mS_steps (pc' := 0) (ls' := [.ref 245, .int p1, .int p2, mU]) (st' := []) (mem' := (mk x y)) 0 rfl ?_
  refine mS_steps (pc' := 1) (ls' := [.ref 245, .int p1, .int p2, mU]) (st' := [.int p1]) (mem' := (mk x y)) 1 rfl ?_
  refine mS_if2 rfl (fun _ => ?_) (fun _ => ?_)
  · refine mS_steps (pc' := 19) (ls' := [.ref 245, .int p1, .int p2, mU]) (st' := [.int (-1 : Int32)]) (mem' := (mk x y)) 1 rfl ?_
    exact mS_reti ⟨_, _, _, _, _, rfl, rfl⟩ rfl
  · refine mS_steps (pc' := 9) (ls' := [.ref 245, .int p1, .int p2, mU]) (st' := [.int (x.1 245 0), .int p1]) (mem' := (mk x y)) 3 rfl ?_
    refine mS_ic3 rfl (fun _ => ?_) (fun _ => ?_)
    · refine mS_steps (pc' := 19) (ls' := [.ref 245, .int p1, .int p2, mU]) (st' := [.int (-1 : Int32)]) (mem' := (mk x y)) 1 rfl ?_
      exact mS_reti ⟨_, _, _, _, _, rfl, rfl⟩ rfl
    · refine mS_steps (pc' := 15) (ls' := [.ref 245, .int p1, .int p2, mU]) (st' := [.int (16 : Int32), .int p1]) (mem' := (mk x y)) 2 rfl ?_
      refine mS_ic2 rfl (fun _ => ?_) (fun _ => ?_)
      · refine mS_steps (pc' := 27) (ls' := [.ref 245, .int p1, .int p2, mU]) (st' := [.int (x.1 245 0), .int (p1 + (1 : Int32))]) (mem' := (mk x y)) 5 rfl ?_
        refine mS_jn (fun j => ∀ z : Int32, mS fm L xs (fun r : Int32 => (.int r, (mk x y))) pg_X0_at 45 [.ref 245, .int p1, .int p2, mU] [.int z] (mk x y) (j z)) ?_ ?_
        · intro z
          revert z; intro w2
          refine mS_steps (pc' := 50) (ls' := [.ref 245, .int p1, .int p2, mU]) (st' := [.int p1, .ref 247, .int w2]) (mem' := (mk x y)) 3 rfl ?_
          refine mS_ald (b := 0) (n := 17) (z := (x.1 247 p1.toNatClampNeg)) rfl (by decide) rfl (by decide) rfl (fun _ => ?_)
          refine mS_steps (pc' := 55) (ls' := [.ref 245, .int p1, .int p2, .int (w2 - (x.1 247 p1.toNatClampNeg))]) (st' := [.int (-1 : Int32), .int p2]) (mem' := (mk x y)) 4 rfl ?_
          refine mS_ic1 rfl (fun _ => ?_) (fun _ => ?_)
          · refine mS_steps (pc' := 59) (ls' := [.ref 245, .int p1, .int p2, .int (w2 - (x.1 247 p1.toNatClampNeg))]) (st' := [.int (w2 - (x.1 247 p1.toNatClampNeg))]) (mem' := (mk x y)) 1 rfl ?_
            exact mS_reti ⟨_, _, _, _, _, rfl, rfl⟩ rfl
          · refine mS_steps (pc' := 61) (ls' := [.ref 245, .int p1, .int p2, .int (w2 - (x.1 247 p1.toNatClampNeg))]) (st' := [.int p2]) (mem' := (mk x y)) 1 rfl ?_
            refine mS_if2 rfl (fun _ => ?_) (fun _ => ?_)
            · refine mS_steps (pc' := 99) (ls' := [.ref 245, .int p1, .int p2, .int (w2 - (x.1 247 p1.toNatClampNeg))]) (st' := [.int (-1 : Int32)]) (mem' := (mk x y)) 1 rfl ?_
              exact mS_reti ⟨_, _, _, _, _, rfl, rfl⟩ rfl
            · refine mS_steps (pc' := 66) (ls' := [.ref 245, .int p1, .int p2, .int (w2 - (x.1 247 p1.toNatClampNeg))]) (st' := [.int (w2 - (x.1 247 p1.toNatClampNeg)), .int p2]) (mem' := (mk x y)) 2 rfl ?_
              refine mS_ic3 rfl (fun _ => ?_) (fun _ => ?_)
              · refine mS_steps (pc' := 99) (ls' := [.ref 245, .int p1, .int p2, .int (w2 - (x.1 247 p1.toNatClampNeg))]) (st' := [.int (-1 : Int32)]) (mem' := (mk x y)) 1 rfl ?_
                exact mS_reti ⟨_, _, _, _, _, rfl, rfl⟩ rfl
              · refine mS_steps (pc' := 74) (ls' := [.ref 245, .int p1, .int p2, .int (w2 - (x.1 247 p1.toNatClampNeg))]) (st' := [.int p1, .ref 247]) (mem' := (mk x y)) 3 rfl ?_
                refine mS_ald (b := 0) (n := 17) (z := (x.1 247 p1.toNatClampNeg)) rfl (by decide) rfl (by decide) rfl (fun _ => ?_)
                refine mS_steps (pc' := 79) (ls' := [.ref 245, .int p1, .int p2, .int (w2 - (x.1 247 p1.toNatClampNeg))]) (st' := [.int (48 : Int32), .int ((x.1 247 p1.toNatClampNeg) + p2)]) (mem' := (mk x y)) 3 rfl ?_
                refine mS_ic3 rfl (fun _ => ?_) (fun _ => ?_)
                · refine mS_steps (pc' := 99) (ls' := [.ref 245, .int p1, .int p2, .int (w2 - (x.1 247 p1.toNatClampNeg))]) (st' := [.int (-1 : Int32)]) (mem' := (mk x y)) 1 rfl ?_
                  exact mS_reti ⟨_, _, _, _, _, rfl, rfl⟩ rfl
                · refine mS_steps (pc' := 91) (ls' := [.ref 245, .int p1, .int p2, .int (w2 - (x.1 247 p1.toNatClampNeg))]) (st' := [.int p1, .ref 247, .ref 246]) (mem' := (mk x y)) 5 rfl ?_
                  refine mS_ald (b := 0) (n := 17) (z := (x.1 247 p1.toNatClampNeg)) rfl (by decide) rfl (by decide) rfl (fun _ => ?_)
                  refine mS_steps (pc' := 94) (ls' := [.ref 245, .int p1, .int p2, .int (w2 - (x.1 247 p1.toNatClampNeg))]) (st' := [.int ((x.1 247 p1.toNatClampNeg) + p2), .ref 246]) (mem' := (mk x y)) 2 rfl ?_
                  refine mS_ald (b := 0) (n := 48) (z := (x.1 246 ((x.1 247 p1.toNatClampNeg) + p2).toNatClampNeg)) rfl (by decide) rfl (by decide) rfl (fun _ => ?_)
                  refine mS_steps (pc' := 99) (ls' := [.ref 245, .int p1, .int p2, .int (w2 - (x.1 247 p1.toNatClampNeg))]) (st' := [.int (x.1 246 ((x.1 247 p1.toNatClampNeg) + p2).toNatClampNeg)]) (mem' := (mk x y)) 1 rfl ?_
                  exact mS_reti ⟨_, _, _, _, _, rfl, rfl⟩ rfl
        intro j1 hj1
        refine mS_ic3 rfl (fun _ => ?_) (fun _ => ?_)
        · refine mS_steps (pc' := 45) (ls' := [.ref 245, .int p1, .int p2, mU]) (st' := [.int (x.1 245 1)]) (mem' := (mk x y)) 2 rfl ?_
          exact hj1 (x.1 245 1)
        · refine mS_steps (pc' := 37) (ls' := [.ref 245, .int p1, .int p2, mU]) (st' := [.int (p1 + (1 : Int32)), .ref 247]) (mem' := (mk x y)) 5 rfl ?_
          refine mS_ald (b := 0) (n := 17) (z := (x.1 247 (p1 + (1 : Int32)).toNatClampNeg)) rfl (by decide) rfl (by decide) rfl (fun _ => ?_)
          refine mS_steps (pc' := 45) (ls' := [.ref 245, .int p1, .int p2, mU]) (st' := [.int (x.1 247 (p1 + (1 : Int32)).toNatClampNeg)]) (mem' := (mk x y)) 1 rfl ?_
          exact hj1 (x.1 247 (p1 + (1 : Int32)).toNatClampNeg)
      · refine mS_steps (pc' := 19) (ls' := [.ref 245, .int p1, .int p2, mU]) (st' := [.int (-1 : Int32)]) (mem' := (mk x y)) 1 rfl ?_
        exact mS_reti ⟨_, _, _, _, _, rfl, rfl⟩ rfl
def f_X10_ear (p1 : Int32) (p2 : Int32) (p3 : Int32) (p4 : Int32) (x : mX) : Option (Int32 × mX) := ((f_X10_hasWay p1 p2 x).bind fun q1 => (if q1.1 = 0 then (some ((-1 : Int32), q1.2)) else ((f_X7_ownOf p1 p2 q1.2).bind fun q2 => ((f_X7_headOf p1 p2 q1.2).bind fun q3 => ((f_X0_trace q2 q3 q1.2).bind fun q4 => (if p3 = (-1 : Int32) then (some ((q4.1 245 0), q4)) else ((f_X0_at p3 p4 q4).bind fun q5 => (some (q5, q4)))))))))
set_option maxRecDepth 20000 in
set_option maxHeartbeats 2000000 in
theorem f_X10_ear_snd {fm : Value} {L : Nat} {xs : Nat → Int32} (p1 : Int32) (p2 : Int32) (p3 : Int32) (p4 : Int32) (x : mX) (y : mY) : mS fm L xs (fun r : (Int32 × mX) => (.int r.1, mk r.2 y)) pg_X10_ear 0 (m_entry [.ref 0, .int p1, .int p2, .int p3, .int p4] 5) [] (mk x y) ((f_X10_ear p1 p2 p3 p4 x)) := by
  unfold f_X10_ear
  refine mS_steps (pc' := 0) (ls' := [.ref 0, .int p1, .int p2, .int p3, .int p4]) (st' := []) (mem' := (mk x y)) 0 rfl ?_
  refine mS_steps (pc' := 3) (ls' := [.ref 0, .int p1, .int p2, .int p3, .int p4]) (st' := [.int p2, .int p1, .ref 0]) (mem' := (mk x y)) 3 rfl ?_
  refine mS_bind (fun q1 hq1 => mS_call 186 3 [.ref 0, .int p1, .int p2] [] rfl rfl rfl ⟨_, _, _, rfl, rfl⟩ (Nat.le_of_ble_eq_true rfl) (Nat.le_of_ble_eq_true rfl) hq1 (f_X10_hasWay_snd p1 p2 x y) ?_)
  refine mS_steps (pc' := 6) (ls' := [.ref 0, .int p1, .int p2, .int p3, .int p4]) (st' := [.int q1.1]) (mem' := (mk q1.2 y)) 0 rfl ?_
  refine mS_if1 rfl (fun _ => ?_) (fun _ => ?_)
  · refine mS_steps (pc' := 10) (ls' := [.ref 0, .int p1, .int p2, .int p3, .int p4]) (st' := [.int (-1 : Int32)]) (mem' := (mk q1.2 y)) 1 rfl ?_
    exact mS_reti ⟨_, _, _, _, _, rfl, rfl⟩ rfl
  · refine mS_steps (pc' := 25) (ls' := [.ref 0, .int p1, .int p2, .int p3, .int p4]) (st' := [.int p2, .int p1, .ref 234, .ref 228, .ref 245]) (mem' := (mk q1.2 y)) 8 rfl ?_
    refine mS_bind (fun q2 hq2 => mS_call 123 3 [.ref 234, .int p1, .int p2] [.ref 228, .ref 245] rfl rfl rfl ⟨_, _, _, rfl, rfl⟩ (Nat.le_of_ble_eq_true rfl) (Nat.le_of_ble_eq_true rfl) hq2 (f_X7_ownOf_snd p1 p2 q1.2 y) ?_)
    refine mS_steps (pc' := 34) (ls' := [.ref 0, .int p1, .int p2, .int p3, .int p4]) (st' := [.int p2, .int p1, .ref 234, .int q2, .ref 228, .ref 245]) (mem' := (mk q1.2 y)) 4 rfl ?_
    refine mS_bind (fun q3 hq3 => mS_call 187 3 [.ref 234, .int p1, .int p2] [.int q2, .ref 228, .ref 245] rfl rfl rfl ⟨_, _, _, rfl, rfl⟩ (Nat.le_of_ble_eq_true rfl) (Nat.le_of_ble_eq_true rfl) hq3 (f_X7_headOf_snd p1 p2 q1.2 y) ?_)
    refine mS_steps (pc' := 37) (ls' := [.ref 0, .int p1, .int p2, .int p3, .int p4]) (st' := [.int q3, .int q2, .ref 228, .ref 245]) (mem' := (mk q1.2 y)) 0 rfl ?_
    refine mS_bind (fun q4 hq4 => mS_call 220 4 [.ref 245, .ref 228, .int q2, .int q3] [] rfl rfl rfl ⟨_, _, _, rfl, rfl⟩ (Nat.le_of_ble_eq_true rfl) (Nat.le_of_ble_eq_true rfl) hq4 (f_X0_trace_snd q2 q3 q1.2 y) ?_)
    refine mS_steps (pc' := 42) (ls' := [.ref 0, .int p1, .int p2, .int p3, .int p4]) (st' := [.int (-1 : Int32), .int p3]) (mem' := (mk q4 y)) 2 rfl ?_
    refine mS_ic1 rfl (fun _ => ?_) (fun _ => ?_)
    · refine mS_steps (pc' := 65) (ls' := [.ref 0, .int p1, .int p2, .int p3, .int p4]) (st' := [.int (q4.1 245 0)]) (mem' := (mk q4 y)) 4 rfl ?_
      exact mS_reti ⟨_, _, _, _, _, rfl, rfl⟩ rfl
    · refine mS_steps (pc' := 62) (ls' := [.ref 0, .int p1, .int p2, .int p3, .int p4]) (st' := [.int p4, .int p3, .ref 245]) (mem' := (mk q4 y)) 4 rfl ?_
      refine mS_bind (fun q5 hq5 => mS_call 221 3 [.ref 245, .int p3, .int p4] [] rfl rfl rfl ⟨_, _, _, rfl, rfl⟩ (Nat.le_of_ble_eq_true rfl) (Nat.le_of_ble_eq_true rfl) hq5 (f_X0_at_snd p3 p4 q4 y) ?_)
      refine mS_steps (pc' := 65) (ls' := [.ref 0, .int p1, .int p2, .int p3, .int p4]) (st' := [.int q5]) (mem' := (mk q4 y)) 0 rfl ?_
      exact mS_reti ⟨_, _, _, _, _, rfl, rfl⟩ rfl
def f_X11_freeFrom_L4 (a1 : Int32) : Nat → Int32 → Int32 → mY → Option Int32
  | 0, _, _, _ => none
  | n + 1, a2, a3, y => (if (y.1 289 4) ≤ a3 then (some a2) else (if (f_X11_has ((y.1 279 51) &&& ((y.1 279 50) ^^^ (-1 : Int32))) a3) = 0 then (f_X11_freeFrom_L4 a1 n a2 (a3 + (1 : Int32)) y) else (if m_in ((8 : Int32) + a3) 72 = true then (m_jn (fun v2 => (if m_in ((24 : Int32) + a3) 72 = true then (if (y.1 289 ((24 : Int32) + a3).toNatClampNeg) = a1 then (if m_in ((8 : Int32) + a3) 72 = true then (f_X11_freeFrom_L4 a1 n (v2 ||| ((1 : Int32) <<< ((y.1 289 ((8 : Int32) + a3).toNatClampNeg) &&& 31))) (a3 + (1 : Int32)) y) else none) else (f_X11_freeFrom_L4 a1 n v2 (a3 + (1 : Int32)) y)) else none)) (fun j1 => if (y.1 289 ((8 : Int32) + a3).toNatClampNeg) = a1 then (if m_in ((24 : Int32) + a3) 72 = true then (j1 (a2 ||| ((1 : Int32) <<< ((y.1 289 ((24 : Int32) + a3).toNatClampNeg) &&& 31)))) else none) else (j1 a2))) else none)))
def f_X11_freeFrom (p1 : Int32) (y : mY) : Option Int32 := (f_X11_freeFrom_L4 p1 mF (0 : Int32) (0 : Int32) y)
set_option maxRecDepth 20000 in
set_option maxHeartbeats 2000000 in
theorem f_X11_freeFrom_L4_snd {fm : Value} {L : Nat} {xs : Nat → Int32} (a1 : Int32) (y : mY) (x : mX) : ∀ (n : Nat) (a2 : Int32) (a3 : Int32), mS fm L xs (fun r : Int32 => (.int r, (mk x y))) pg_X11_freeFrom 4 [.ref 279, .int a1, .int a2, .int a3] [] (mk x y) (f_X11_freeFrom_L4 a1 n a2 a3 y) := by
  intro n
  induction n with
  | zero => intro a2 a3; exact mS_none
  | succ n ih =>
    intro a2 a3
    rw [f_X11_freeFrom_L4]
    refine mS_steps (pc' := 10) (ls' := [.ref 279, .int a1, .int a2, .int a3]) (st' := [.int (4 : Int32), .ref 289, .int a3]) (mem' := (mk x y)) 4 rfl ?_
    refine mS_aldc (b := 0) (n := 72) (c := 4) (z := (y.1 289 4)) rfl (by decide) rfl (by decide) (by decide) (by decide) rfl ?_
    refine mS_ic3 rfl (fun _ => ?_) (fun _ => ?_)
    · refine mS_steps (pc' := 96) (ls' := [.ref 279, .int a1, .int a2, .int a3]) (st' := [.int a2]) (mem' := (mk x y)) 1 rfl ?_
      exact mS_reti ⟨_, _, _, _, _, rfl, rfl⟩ rfl
    · refine mS_steps (pc' := 26) (ls' := [.ref 279, .int a1, .int a2, .int a3]) (st' := [.int a3, .int ((y.1 279 51) &&& ((y.1 279 50) ^^^ (-1 : Int32)))]) (mem' := (mk x y)) 8 rfl ?_
      refine mS_call (q := (f_X11_has ((y.1 279 51) &&& ((y.1 279 50) ^^^ (-1 : Int32))) a3)) 87 2 [.int ((y.1 279 51) &&& ((y.1 279 50) ^^^ (-1 : Int32))), .int a3] [] rfl rfl rfl ⟨_, _, _, rfl, rfl⟩ (Nat.le_of_ble_eq_true rfl) (Nat.le_of_ble_eq_true rfl) rfl (f_X11_has_snd ((y.1 279 51) &&& ((y.1 279 50) ^^^ (-1 : Int32))) a3 (mk x y)) ?_
      refine mS_steps (pc' := 29) (ls' := [.ref 279, .int a1, .int a2, .int a3]) (st' := [.int (f_X11_has ((y.1 279 51) &&& ((y.1 279 50) ^^^ (-1 : Int32))) a3)]) (mem' := (mk x y)) 0 rfl ?_
      refine mS_if1 rfl (fun _ => ?_) (fun _ => ?_)
      · refine mS_steps (pc' := 4) (ls' := [.ref 279, .int a1, .int a2, .int (a3 + (1 : Int32))]) (st' := []) (mem' := (mk x y)) 3 rfl ?_
        exact ih a2 (a3 + (1 : Int32))
      · refine mS_steps (pc' := 43) (ls' := [.ref 279, .int a1, .int a2, .int a3]) (st' := [.int ((8 : Int32) + a3), .ref 289]) (mem' := (mk x y)) 5 rfl ?_
        refine mS_ald (b := 0) (n := 72) (z := (y.1 289 ((8 : Int32) + a3).toNatClampNeg)) rfl (by decide) rfl (by decide) rfl (fun _ => ?_)
        refine mS_steps (pc' := 45) (ls' := [.ref 279, .int a1, .int a2, .int a3]) (st' := [.int a1, .int (y.1 289 ((8 : Int32) + a3).toNatClampNeg)]) (mem' := (mk x y)) 1 rfl ?_
        refine mS_jn (fun j => ∀ z : Int32, mS fm L xs (fun r : Int32 => (.int r, (mk x y))) pg_X11_freeFrom 62 [.ref 279, .int a1, .int z, .int a3] [] (mk x y) (j z)) ?_ ?_
        · intro z
          revert z; intro v2
          refine mS_steps (pc' := 70) (ls' := [.ref 279, .int a1, .int v2, .int a3]) (st' := [.int ((24 : Int32) + a3), .ref 289]) (mem' := (mk x y)) 5 rfl ?_
          refine mS_ald (b := 0) (n := 72) (z := (y.1 289 ((24 : Int32) + a3).toNatClampNeg)) rfl (by decide) rfl (by decide) rfl (fun _ => ?_)
          refine mS_steps (pc' := 72) (ls' := [.ref 279, .int a1, .int v2, .int a3]) (st' := [.int a1, .int (y.1 289 ((24 : Int32) + a3).toNatClampNeg)]) (mem' := (mk x y)) 1 rfl ?_
          refine mS_ic1 rfl (fun _ => ?_) (fun _ => ?_)
          · refine mS_steps (pc' := 85) (ls' := [.ref 279, .int a1, .int v2, .int a3]) (st' := [.int ((8 : Int32) + a3), .ref 289, .int (1 : Int32), .int v2]) (mem' := (mk x y)) 7 rfl ?_
            refine mS_ald (b := 0) (n := 72) (z := (y.1 289 ((8 : Int32) + a3).toNatClampNeg)) rfl (by decide) rfl (by decide) rfl (fun _ => ?_)
            refine mS_steps (pc' := 4) (ls' := [.ref 279, .int a1, .int (v2 ||| ((1 : Int32) <<< ((y.1 289 ((8 : Int32) + a3).toNatClampNeg) &&& 31))), .int (a3 + (1 : Int32))]) (st' := []) (mem' := (mk x y)) 5 rfl ?_
            exact ih (v2 ||| ((1 : Int32) <<< ((y.1 289 ((8 : Int32) + a3).toNatClampNeg) &&& 31))) (a3 + (1 : Int32))
          · refine mS_steps (pc' := 4) (ls' := [.ref 279, .int a1, .int v2, .int (a3 + (1 : Int32))]) (st' := []) (mem' := (mk x y)) 2 rfl ?_
            exact ih v2 (a3 + (1 : Int32))
        intro j1 hj1
        refine mS_ic1 rfl (fun _ => ?_) (fun _ => ?_)
        · refine mS_steps (pc' := 58) (ls' := [.ref 279, .int a1, .int a2, .int a3]) (st' := [.int ((24 : Int32) + a3), .ref 289, .int (1 : Int32), .int a2]) (mem' := (mk x y)) 7 rfl ?_
          refine mS_ald (b := 0) (n := 72) (z := (y.1 289 ((24 : Int32) + a3).toNatClampNeg)) rfl (by decide) rfl (by decide) rfl (fun _ => ?_)
          refine mS_steps (pc' := 62) (ls' := [.ref 279, .int a1, .int (a2 ||| ((1 : Int32) <<< ((y.1 289 ((24 : Int32) + a3).toNatClampNeg) &&& 31))), .int a3]) (st' := []) (mem' := (mk x y)) 3 rfl ?_
          exact hj1 (a2 ||| ((1 : Int32) <<< ((y.1 289 ((24 : Int32) + a3).toNatClampNeg) &&& 31)))
        · exact hj1 a2
set_option maxRecDepth 20000 in
set_option maxHeartbeats 2000000 in
theorem f_X11_freeFrom_snd {fm : Value} {L : Nat} {xs : Nat → Int32} (p1 : Int32) (y : mY) (x : mX) : mS fm L xs (fun r : Int32 => (.int r, (mk x y))) pg_X11_freeFrom 0 (m_entry [.ref 279, .int p1] 4) [] (mk x y) ((f_X11_freeFrom p1 y)) := by
  unfold f_X11_freeFrom
  refine mS_steps (pc' := 0) (ls' := [.ref 279, .int p1, mU, mU]) (st' := []) (mem' := (mk x y)) 0 rfl ?_
  refine mS_steps (pc' := 4) (ls' := [.ref 279, .int p1, .int (0 : Int32), .int (0 : Int32)]) (st' := []) (mem' := (mk x y)) 4 rfl ?_
  refine f_X11_freeFrom_L4_snd p1 y x mF (0 : Int32) (0 : Int32)
def f_X11_goesTo (p1 : Int32) (p2 : Int32) (y : mY) : Option mY := ((f_X11_between p1 p2 y).bind fun q1 => (m_let (m_ys y 279 50 ((y.1 279 50) ||| ((1 : Int32) <<< (q1 &&& 31)))) fun y2 => (if m_in (y2.1 279 46) 16 = true then (if m_in (((10 : Int32) * (y2.1 279 46)) + (y2.1 306 (y2.1 279 46).toNatClampNeg)) 160 = true then (m_let (m_ys y2 305 (((10 : Int32) * (y2.1 279 46)) + (y2.1 306 (y2.1 279 46).toNatClampNeg)).toNatClampNeg p2) fun y3 => (if m_in (y3.1 279 46) 16 = true then (if m_in (y3.1 279 46) 16 = true then (m_let (m_ys y3 306 (y3.1 279 46).toNatClampNeg ((y3.1 306 (y3.1 279 46).toNatClampNeg) + (1 : Int32))) fun y4 => (some y4)) else none) else none)) else none) else none)))
set_option maxRecDepth 20000 in
set_option maxHeartbeats 2000000 in
theorem f_X11_goesTo_snd {fm : Value} {L : Nat} {xs : Nat → Int32} (p1 : Int32) (p2 : Int32) (y : mY) (x : mX) : mS fm L xs (fun r : mY => (mU, mk x r)) pg_X11_goesTo 0 (m_entry [.ref 279, .int p1, .int p2] 3) [] (mk x y) ((f_X11_goesTo p1 p2 y)) := by
  unfold f_X11_goesTo
  refine mS_steps (pc' := 0) (ls' := [.ref 279, .int p1, .int p2]) (st' := []) (mem' := (mk x y)) 0 rfl ?_
  refine mS_steps (pc' := 9) (ls' := [.ref 279, .int p1, .int p2]) (st' := [.int p2, .int p1, .ref 279, .int (1 : Int32), .int (y.1 279 50), .ref 279]) (mem' := (mk x y)) 7 rfl ?_
  refine mS_bind (fun q1 hq1 => mS_call 107 3 [.ref 279, .int p1, .int p2] [.int (1 : Int32), .int (y.1 279 50), .ref 279] rfl rfl rfl ⟨_, _, _, rfl, rfl⟩ (Nat.le_of_ble_eq_true rfl) (Nat.le_of_ble_eq_true rfl) hq1 (f_X11_between_snd p1 p2 y x) ?_)
  refine mS_steps (pc' := 14) (ls' := [.ref 279, .int p1, .int p2]) (st' := [.int ((y.1 279 50) ||| ((1 : Int32) <<< (q1 &&& 31))), .ref 279]) (mem' := (mk x y)) 2 rfl ?_
  refine mS_puty rfl rfl (by decide) rfl ?_
  refine mS_lety (fun y2 => ?_)
  refine mS_steps (pc' := 36) (ls' := [.ref 279, .int p1, .int p2]) (st' := [.int (y2.1 279 46), .ref 306, .int ((10 : Int32) * (y2.1 279 46)), .ref 305]) (mem' := (mk x y2)) 10 rfl ?_
  refine mS_ald (b := 0) (n := 16) (z := (y2.1 306 (y2.1 279 46).toNatClampNeg)) rfl (by decide) rfl (by decide) rfl (fun _ => ?_)
  refine mS_steps (pc' := 39) (ls' := [.ref 279, .int p1, .int p2]) (st' := [.int p2, .int (((10 : Int32) * (y2.1 279 46)) + (y2.1 306 (y2.1 279 46).toNatClampNeg)), .ref 305]) (mem' := (mk x y2)) 2 rfl ?_
  refine mS_ast0y (n := 160) rfl rfl (by decide) (fun _ => ?_)
  refine mS_lety (fun y3 => ?_)
  refine mS_steps (pc' := 49) (ls' := [.ref 279, .int p1, .int p2]) (st' := [.int (y3.1 279 46), .ref 306, .int (y3.1 279 46), .ref 306]) (mem' := (mk x y3)) 5 rfl ?_
  refine mS_ald (b := 0) (n := 16) (z := (y3.1 306 (y3.1 279 46).toNatClampNeg)) rfl (by decide) rfl (by decide) rfl (fun _ => ?_)
  refine mS_steps (pc' := 52) (ls' := [.ref 279, .int p1, .int p2]) (st' := [.int ((y3.1 306 (y3.1 279 46).toNatClampNeg) + (1 : Int32)), .int (y3.1 279 46), .ref 306]) (mem' := (mk x y3)) 2 rfl ?_
  refine mS_ast0y (n := 16) rfl rfl (by decide) (fun _ => ?_)
  refine mS_lety (fun y4 => ?_)
  exact mS_retv ⟨_, _, _, _, _, rfl⟩ rfl
def f_X11_laysFarFrom_L3 (a1 : Int32) (a2 : Int32) (a3 : Int32) (a4 : Int32) : Nat → Int32 → mY → (mY → Option mY) → Option mY
  | 0, _, _, _ => none
  | n + 1, a5, y, k83 => (if (8 : Int32) ≤ a5 then (k83 y) else (if m_in ((8 : Int32) + a5) 24 = true then (m_jn (fun v2 => (if (f_X11_has (a3 &&& ((y.1 279 49) ^^^ (-1 : Int32))) a5) = 0 then (if m_in a5 8 = true then (m_let (m_ys y 308 a5.toNatClampNeg (99 : Int32)) fun y3 => (f_X11_laysFarFrom_L3 a1 a2 a3 a4 n (a5 + (1 : Int32)) y3 k83)) else none) else (if (v2 &&& a4) = 0 then (if m_in a5 8 = true then (m_let (m_ys y 308 a5.toNatClampNeg (99 : Int32)) fun y4 => (f_X11_laysFarFrom_L3 a1 a2 a3 a4 n (a5 + (1 : Int32)) y4 k83)) else none) else (if m_in a5 8 = true then (m_let (m_ys y 308 a5.toNatClampNeg (1 : Int32)) fun y5 => (f_X11_laysFarFrom_L3 a1 a2 a3 a4 n (a5 + (1 : Int32)) y5 k83)) else none)))) (fun j1 => if a5 = a2 then (j1 (((y.1 293 ((8 : Int32) + a5).toNatClampNeg) &&& a3) &&& (((1 : Int32) <<< (a1 &&& 31)) ^^^ (-1 : Int32)))) else (j1 ((y.1 293 ((8 : Int32) + a5).toNatClampNeg) &&& a3)))) else none))
def f_X11_laysFarFrom_L137 (a5 : Int32) (a6 : Int32) : Nat → Int32 → mY → (mY → Option mY) → Option mY
  | 0, _, _, _ => none
  | n + 1, a7, y, k191 => (if (8 : Int32) ≤ a7 then (k191 y) else (if m_in ((8 : Int32) + a6) 24 = true then (if (f_X11_has (y.1 293 ((8 : Int32) + a6).toNatClampNeg) a7) = 0 then (f_X11_laysFarFrom_L137 a5 a6 n (a7 + (1 : Int32)) y k191) else (if m_in a7 8 = true then (if (y.1 308 a7.toNatClampNeg) = (a5 - (1 : Int32)) then (if m_in a6 8 = true then (m_let (m_ys y 308 a6.toNatClampNeg a5) fun y8 => (f_X11_laysFarFrom_L137 a5 a6 n (a7 + (1 : Int32)) y8 k191)) else none) else (f_X11_laysFarFrom_L137 a5 a6 n (a7 + (1 : Int32)) y k191)) else none)) else none))
def f_X11_laysFarFrom_L96 (a3 : Int32) (a5 : Int32) : Nat → Int32 → mY → (mY → Option mY) → Option mY
  | 0, _, _, _ => none
  | n + 1, a6, y, k197 => (if (8 : Int32) ≤ a6 then (k197 y) else (if m_in a6 8 = true then (if (y.1 308 a6.toNatClampNeg) = (99 : Int32) then (if (f_X11_has (a3 &&& ((y.1 279 49) ^^^ (-1 : Int32))) a6) = 0 then (f_X11_laysFarFrom_L96 a3 a5 n (a6 + (1 : Int32)) y k197) else (f_X11_laysFarFrom_L137 a5 a6 mF (0 : Int32) y (fun y9 => (f_X11_laysFarFrom_L96 a3 a5 n (a6 + (1 : Int32)) y9 k197)))) else (f_X11_laysFarFrom_L96 a3 a5 n (a6 + (1 : Int32)) y k197)) else none))
def f_X11_laysFarFrom_L86 (a2 : Int32) (a3 : Int32) : Nat → Int32 → mY → Option mY
  | 0, _, _ => none
  | n + 1, a5, y => (if (8 : Int32) ≤ a5 then (m_let (m_ys y 279 53 a2) fun y7 => (some y7)) else (f_X11_laysFarFrom_L96 a3 a5 mF (0 : Int32) y (fun y10 => (f_X11_laysFarFrom_L86 a2 a3 n (a5 + (1 : Int32)) y10))))
def f_X11_laysFarFrom (p1 : Int32) (p2 : Int32) (p3 : Int32) (p4 : Int32) (y : mY) : Option mY := (f_X11_laysFarFrom_L3 p1 p2 p3 p4 mF (0 : Int32) y (fun y6 => (f_X11_laysFarFrom_L86 p2 p3 mF (2 : Int32) y6)))
set_option maxRecDepth 20000 in
set_option maxHeartbeats 2000000 in
theorem f_X11_laysFarFrom_L3_snd {fm : Value} {L : Nat} {xs : Nat → Int32} (a1 : Int32) (a2 : Int32) (a3 : Int32) (a4 : Int32) (x : mX) (k83 : mY → Option mY) (hk83 : ∀ (z0 : mY), mS fm L xs (fun r : mY => (mU, mk x r)) pg_X11_laysFarFrom 83 [.ref 279, mU, .int a2, .int a3, mU, mU, mU, mU] [] (mk x z0) (k83 z0)) : ∀ (n : Nat) (a5 : Int32) (y : mY), mS fm L xs (fun r : mY => (mU, mk x r)) pg_X11_laysFarFrom 3 [.ref 279, .int a1, .int a2, .int a3, .int a4, .int a5, mU, mU] [] (mk x y) (f_X11_laysFarFrom_L3 a1 a2 a3 a4 n a5 y k83) := by
  intro n
  induction n with
  | zero => intro a5 y; exact mS_none
  | succ n ih =>
    intro a5 y
    rw [f_X11_laysFarFrom_L3]
    refine mS_steps (pc' := 7) (ls' := [.ref 279, .int a1, .int a2, .int a3, .int a4, .int a5, mU, mU]) (st' := [.int (8 : Int32), .int a5]) (mem' := (mk x y)) 2 rfl ?_
    refine mS_ic3 rfl (fun _ => ?_) (fun _ => ?_)
    · refine mS_forget [.ref 279, mU, .int a2, .int a3, mU, mU, mU, mU] ⟨Or.inr rfl, Or.inl rfl, Or.inr rfl, Or.inr rfl, Or.inl rfl, Or.inl rfl, Or.inl rfl, Or.inl rfl, trivial⟩ ?_
      exact hk83 y
    · refine mS_steps (pc' := 19) (ls' := [.ref 279, .int a1, .int a2, .int a3, .int a4, .int a5, mU, mU]) (st' := [.int ((8 : Int32) + a5), .ref 293]) (mem' := (mk x y)) 5 rfl ?_
      refine mS_ald (b := 0) (n := 24) (z := (y.1 293 ((8 : Int32) + a5).toNatClampNeg)) rfl (by decide) rfl (by decide) rfl (fun _ => ?_)
      refine mS_steps (pc' := 27) (ls' := [.ref 279, .int a1, .int a2, .int a3, .int a4, .int a5, .int ((y.1 293 ((8 : Int32) + a5).toNatClampNeg) &&& a3), mU]) (st' := [.int a2, .int a5]) (mem' := (mk x y)) 5 rfl ?_
      refine mS_jn (fun j => ∀ z : Int32, mS fm L xs (fun r : mY => (mU, mk x r)) pg_X11_laysFarFrom 40 [.ref 279, .int a1, .int a2, .int a3, .int a4, .int a5, .int z, mU] [] (mk x y) (j z)) ?_ ?_
      · intro z
        revert z; intro v2
        refine mS_steps (pc' := 56) (ls' := [.ref 279, .int a1, .int a2, .int a3, .int a4, .int a5, .int v2, mU]) (st' := [.int a5, .int (a3 &&& ((y.1 279 49) ^^^ (-1 : Int32))), .int a5, .ref 308]) (mem' := (mk x y)) 10 rfl ?_
        refine mS_call (q := (f_X11_has (a3 &&& ((y.1 279 49) ^^^ (-1 : Int32))) a5)) 87 2 [.int (a3 &&& ((y.1 279 49) ^^^ (-1 : Int32))), .int a5] [.int a5, .ref 308] rfl rfl rfl ⟨_, _, _, rfl, rfl⟩ (Nat.le_of_ble_eq_true rfl) (Nat.le_of_ble_eq_true rfl) rfl (f_X11_has_snd (a3 &&& ((y.1 279 49) ^^^ (-1 : Int32))) a5 (mk x y)) ?_
        refine mS_steps (pc' := 59) (ls' := [.ref 279, .int a1, .int a2, .int a3, .int a4, .int a5, .int v2, mU]) (st' := [.int (f_X11_has (a3 &&& ((y.1 279 49) ^^^ (-1 : Int32))) a5), .int a5, .ref 308]) (mem' := (mk x y)) 0 rfl ?_
        refine mS_if0 rfl (fun _ => ?_) (fun _ => ?_)
        · refine mS_steps (pc' := 76) (ls' := [.ref 279, .int a1, .int a2, .int a3, .int a4, .int a5, .int v2, mU]) (st' := [.int (99 : Int32), .int a5, .ref 308]) (mem' := (mk x y)) 1 rfl ?_
          refine mS_ast0y (n := 8) rfl rfl (by decide) (fun _ => ?_)
          refine mS_lety (fun y3 => ?_)
          refine mS_steps (pc' := 3) (ls' := [.ref 279, .int a1, .int a2, .int a3, .int a4, .int (a5 + (1 : Int32)), .int v2, mU]) (st' := []) (mem' := (mk x y3)) 2 rfl ?_
          refine mS_forget [.ref 279, .int a1, .int a2, .int a3, .int a4, .int (a5 + (1 : Int32)), mU, mU] ⟨Or.inr rfl, Or.inr rfl, Or.inr rfl, Or.inr rfl, Or.inr rfl, Or.inr rfl, Or.inl rfl, Or.inl rfl, trivial⟩ ?_
          exact ih (a5 + (1 : Int32)) y3
        · refine mS_steps (pc' := 67) (ls' := [.ref 279, .int a1, .int a2, .int a3, .int a4, .int a5, .int v2, mU]) (st' := [.int (v2 &&& a4), .int a5, .ref 308]) (mem' := (mk x y)) 3 rfl ?_
          refine mS_if0 rfl (fun _ => ?_) (fun _ => ?_)
          · refine mS_steps (pc' := 76) (ls' := [.ref 279, .int a1, .int a2, .int a3, .int a4, .int a5, .int v2, mU]) (st' := [.int (99 : Int32), .int a5, .ref 308]) (mem' := (mk x y)) 1 rfl ?_
            refine mS_ast0y (n := 8) rfl rfl (by decide) (fun _ => ?_)
            refine mS_lety (fun y4 => ?_)
            refine mS_steps (pc' := 3) (ls' := [.ref 279, .int a1, .int a2, .int a3, .int a4, .int (a5 + (1 : Int32)), .int v2, mU]) (st' := []) (mem' := (mk x y4)) 2 rfl ?_
            refine mS_forget [.ref 279, .int a1, .int a2, .int a3, .int a4, .int (a5 + (1 : Int32)), mU, mU] ⟨Or.inr rfl, Or.inr rfl, Or.inr rfl, Or.inr rfl, Or.inr rfl, Or.inr rfl, Or.inl rfl, Or.inl rfl, trivial⟩ ?_
            exact ih (a5 + (1 : Int32)) y4
          · refine mS_steps (pc' := 76) (ls' := [.ref 279, .int a1, .int a2, .int a3, .int a4, .int a5, .int v2, mU]) (st' := [.int (1 : Int32), .int a5, .ref 308]) (mem' := (mk x y)) 2 rfl ?_
            refine mS_ast0y (n := 8) rfl rfl (by decide) (fun _ => ?_)
            refine mS_lety (fun y5 => ?_)
            refine mS_steps (pc' := 3) (ls' := [.ref 279, .int a1, .int a2, .int a3, .int a4, .int (a5 + (1 : Int32)), .int v2, mU]) (st' := []) (mem' := (mk x y5)) 2 rfl ?_
            refine mS_forget [.ref 279, .int a1, .int a2, .int a3, .int a4, .int (a5 + (1 : Int32)), mU, mU] ⟨Or.inr rfl, Or.inr rfl, Or.inr rfl, Or.inr rfl, Or.inr rfl, Or.inr rfl, Or.inl rfl, Or.inl rfl, trivial⟩ ?_
            exact ih (a5 + (1 : Int32)) y5
      intro j1 hj1
      refine mS_ic1 rfl (fun _ => ?_) (fun _ => ?_)
      · refine mS_steps (pc' := 40) (ls' := [.ref 279, .int a1, .int a2, .int a3, .int a4, .int a5, .int (((y.1 293 ((8 : Int32) + a5).toNatClampNeg) &&& a3) &&& (((1 : Int32) <<< (a1 &&& 31)) ^^^ (-1 : Int32))), mU]) (st' := []) (mem' := (mk x y)) 8 rfl ?_
        exact hj1 (((y.1 293 ((8 : Int32) + a5).toNatClampNeg) &&& a3) &&& (((1 : Int32) <<< (a1 &&& 31)) ^^^ (-1 : Int32)))
      · exact hj1 ((y.1 293 ((8 : Int32) + a5).toNatClampNeg) &&& a3)
set_option maxRecDepth 20000 in
set_option maxHeartbeats 2000000 in
theorem f_X11_laysFarFrom_L137_snd {fm : Value} {L : Nat} {xs : Nat → Int32} (a2 : Int32) (a3 : Int32) (a5 : Int32) (a6 : Int32) (x : mX) (k191 : mY → Option mY) (hk191 : ∀ (z0 : mY), mS fm L xs (fun r : mY => (mU, mk x r)) pg_X11_laysFarFrom 191 [.ref 279, mU, .int a2, .int a3, mU, .int a5, .int a6, mU] [] (mk x z0) (k191 z0)) : ∀ (n : Nat) (a7 : Int32) (y : mY), mS fm L xs (fun r : mY => (mU, mk x r)) pg_X11_laysFarFrom 137 [.ref 279, mU, .int a2, .int a3, mU, .int a5, .int a6, .int a7] [] (mk x y) (f_X11_laysFarFrom_L137 a5 a6 n a7 y k191) := by
  intro n
  induction n with
  | zero => intro a7 y; exact mS_none
  | succ n ih =>
    intro a7 y
    rw [f_X11_laysFarFrom_L137]
    refine mS_steps (pc' := 141) (ls' := [.ref 279, mU, .int a2, .int a3, mU, .int a5, .int a6, .int a7]) (st' := [.int (8 : Int32), .int a7]) (mem' := (mk x y)) 2 rfl ?_
    refine mS_ic3 rfl (fun _ => ?_) (fun _ => ?_)
    · refine mS_forget [.ref 279, mU, .int a2, .int a3, mU, .int a5, .int a6, mU] ⟨Or.inr rfl, Or.inl rfl, Or.inr rfl, Or.inr rfl, Or.inl rfl, Or.inr rfl, Or.inr rfl, Or.inl rfl, trivial⟩ ?_
      exact hk191 y
    · refine mS_steps (pc' := 153) (ls' := [.ref 279, mU, .int a2, .int a3, mU, .int a5, .int a6, .int a7]) (st' := [.int ((8 : Int32) + a6), .ref 293]) (mem' := (mk x y)) 5 rfl ?_
      refine mS_ald (b := 0) (n := 24) (z := (y.1 293 ((8 : Int32) + a6).toNatClampNeg)) rfl (by decide) rfl (by decide) rfl (fun _ => ?_)
      refine mS_steps (pc' := 156) (ls' := [.ref 279, mU, .int a2, .int a3, mU, .int a5, .int a6, .int a7]) (st' := [.int a7, .int (y.1 293 ((8 : Int32) + a6).toNatClampNeg)]) (mem' := (mk x y)) 1 rfl ?_
      refine mS_call (q := (f_X11_has (y.1 293 ((8 : Int32) + a6).toNatClampNeg) a7)) 87 2 [.int (y.1 293 ((8 : Int32) + a6).toNatClampNeg), .int a7] [] rfl rfl rfl ⟨_, _, _, rfl, rfl⟩ (Nat.le_of_ble_eq_true rfl) (Nat.le_of_ble_eq_true rfl) rfl (f_X11_has_snd (y.1 293 ((8 : Int32) + a6).toNatClampNeg) a7 (mk x y)) ?_
      refine mS_steps (pc' := 159) (ls' := [.ref 279, mU, .int a2, .int a3, mU, .int a5, .int a6, .int a7]) (st' := [.int (f_X11_has (y.1 293 ((8 : Int32) + a6).toNatClampNeg) a7)]) (mem' := (mk x y)) 0 rfl ?_
      refine mS_if0 rfl (fun _ => ?_) (fun _ => ?_)
      · refine mS_steps (pc' := 137) (ls' := [.ref 279, mU, .int a2, .int a3, mU, .int a5, .int a6, .int (a7 + (1 : Int32))]) (st' := []) (mem' := (mk x y)) 2 rfl ?_
        exact ih (a7 + (1 : Int32)) y
      · refine mS_steps (pc' := 168) (ls' := [.ref 279, mU, .int a2, .int a3, mU, .int a5, .int a6, .int a7]) (st' := [.int a7, .ref 308]) (mem' := (mk x y)) 3 rfl ?_
        refine mS_ald (b := 0) (n := 8) (z := (y.1 308 a7.toNatClampNeg)) rfl (by decide) rfl (by decide) rfl (fun _ => ?_)
        refine mS_steps (pc' := 173) (ls' := [.ref 279, mU, .int a2, .int a3, mU, .int a5, .int a6, .int a7]) (st' := [.int (a5 - (1 : Int32)), .int (y.1 308 a7.toNatClampNeg)]) (mem' := (mk x y)) 3 rfl ?_
        refine mS_ic1 rfl (fun _ => ?_) (fun _ => ?_)
        · refine mS_steps (pc' := 184) (ls' := [.ref 279, mU, .int a2, .int a3, mU, .int a5, .int a6, .int a7]) (st' := [.int a5, .int a6, .ref 308]) (mem' := (mk x y)) 4 rfl ?_
          refine mS_ast0y (n := 8) rfl rfl (by decide) (fun _ => ?_)
          refine mS_lety (fun y8 => ?_)
          refine mS_steps (pc' := 137) (ls' := [.ref 279, mU, .int a2, .int a3, mU, .int a5, .int a6, .int (a7 + (1 : Int32))]) (st' := []) (mem' := (mk x y8)) 2 rfl ?_
          exact ih (a7 + (1 : Int32)) y8
        · refine mS_steps (pc' := 137) (ls' := [.ref 279, mU, .int a2, .int a3, mU, .int a5, .int a6, .int (a7 + (1 : Int32))]) (st' := []) (mem' := (mk x y)) 2 rfl ?_
          exact ih (a7 + (1 : Int32)) y
set_option maxRecDepth 20000 in
set_option maxHeartbeats 2000000 in
theorem f_X11_laysFarFrom_L96_snd {fm : Value} {L : Nat} {xs : Nat → Int32} (a2 : Int32) (a3 : Int32) (a5 : Int32) (x : mX) (k197 : mY → Option mY) (hk197 : ∀ (z0 : mY), mS fm L xs (fun r : mY => (mU, mk x r)) pg_X11_laysFarFrom 197 [.ref 279, mU, .int a2, .int a3, mU, .int a5, mU, mU] [] (mk x z0) (k197 z0)) : ∀ (n : Nat) (a6 : Int32) (y : mY), mS fm L xs (fun r : mY => (mU, mk x r)) pg_X11_laysFarFrom 96 [.ref 279, mU, .int a2, .int a3, mU, .int a5, .int a6, mU] [] (mk x y) (f_X11_laysFarFrom_L96 a3 a5 n a6 y k197) := by
  intro n
  induction n with
  | zero => intro a6 y; exact mS_none
  | succ n ih =>
    intro a6 y
    rw [f_X11_laysFarFrom_L96]
    refine mS_steps (pc' := 100) (ls' := [.ref 279, mU, .int a2, .int a3, mU, .int a5, .int a6, mU]) (st' := [.int (8 : Int32), .int a6]) (mem' := (mk x y)) 2 rfl ?_
    refine mS_ic3 rfl (fun _ => ?_) (fun _ => ?_)
    · refine mS_forget [.ref 279, mU, .int a2, .int a3, mU, .int a5, mU, mU] ⟨Or.inr rfl, Or.inl rfl, Or.inr rfl, Or.inr rfl, Or.inl rfl, Or.inr rfl, Or.inl rfl, Or.inl rfl, trivial⟩ ?_
      exact hk197 y
    · refine mS_steps (pc' := 109) (ls' := [.ref 279, mU, .int a2, .int a3, mU, .int a5, .int a6, mU]) (st' := [.int a6, .ref 308]) (mem' := (mk x y)) 3 rfl ?_
      refine mS_ald (b := 0) (n := 8) (z := (y.1 308 a6.toNatClampNeg)) rfl (by decide) rfl (by decide) rfl (fun _ => ?_)
      refine mS_steps (pc' := 112) (ls' := [.ref 279, mU, .int a2, .int a3, mU, .int a5, .int a6, mU]) (st' := [.int (99 : Int32), .int (y.1 308 a6.toNatClampNeg)]) (mem' := (mk x y)) 1 rfl ?_
      refine mS_ic1 rfl (fun _ => ?_) (fun _ => ?_)
      · refine mS_steps (pc' := 125) (ls' := [.ref 279, mU, .int a2, .int a3, mU, .int a5, .int a6, mU]) (st' := [.int a6, .int (a3 &&& ((y.1 279 49) ^^^ (-1 : Int32)))]) (mem' := (mk x y)) 7 rfl ?_
        refine mS_call (q := (f_X11_has (a3 &&& ((y.1 279 49) ^^^ (-1 : Int32))) a6)) 87 2 [.int (a3 &&& ((y.1 279 49) ^^^ (-1 : Int32))), .int a6] [] rfl rfl rfl ⟨_, _, _, rfl, rfl⟩ (Nat.le_of_ble_eq_true rfl) (Nat.le_of_ble_eq_true rfl) rfl (f_X11_has_snd (a3 &&& ((y.1 279 49) ^^^ (-1 : Int32))) a6 (mk x y)) ?_
        refine mS_steps (pc' := 128) (ls' := [.ref 279, mU, .int a2, .int a3, mU, .int a5, .int a6, mU]) (st' := [.int (f_X11_has (a3 &&& ((y.1 279 49) ^^^ (-1 : Int32))) a6)]) (mem' := (mk x y)) 0 rfl ?_
        refine mS_if1 rfl (fun _ => ?_) (fun _ => ?_)
        · refine mS_steps (pc' := 96) (ls' := [.ref 279, mU, .int a2, .int a3, mU, .int a5, .int (a6 + (1 : Int32)), mU]) (st' := []) (mem' := (mk x y)) 3 rfl ?_
          exact ih (a6 + (1 : Int32)) y
        · refine mS_steps (pc' := 137) (ls' := [.ref 279, mU, .int a2, .int a3, mU, .int a5, .int a6, .int (0 : Int32)]) (st' := []) (mem' := (mk x y)) 2 rfl ?_
          refine f_X11_laysFarFrom_L137_snd a2 a3 a5 a6 x _ ?_ mF (0 : Int32) y
          · intro y9
            refine mS_steps (pc' := 96) (ls' := [.ref 279, mU, .int a2, .int a3, mU, .int a5, .int (a6 + (1 : Int32)), mU]) (st' := []) (mem' := (mk x y9)) 2 rfl ?_
            exact ih (a6 + (1 : Int32)) y9
      · refine mS_steps (pc' := 96) (ls' := [.ref 279, mU, .int a2, .int a3, mU, .int a5, .int (a6 + (1 : Int32)), mU]) (st' := []) (mem' := (mk x y)) 2 rfl ?_
        exact ih (a6 + (1 : Int32)) y
set_option maxRecDepth 20000 in
set_option maxHeartbeats 2000000 in
theorem f_X11_laysFarFrom_L86_snd {fm : Value} {L : Nat} {xs : Nat → Int32} (a2 : Int32) (a3 : Int32) (x : mX) : ∀ (n : Nat) (a5 : Int32) (y : mY), mS fm L xs (fun r : mY => (mU, mk x r)) pg_X11_laysFarFrom 86 [.ref 279, mU, .int a2, .int a3, mU, .int a5, mU, mU] [] (mk x y) (f_X11_laysFarFrom_L86 a2 a3 n a5 y) := by
  intro n
  induction n with
  | zero => intro a5 y; exact mS_none
  | succ n ih =>
    intro a5 y
    rw [f_X11_laysFarFrom_L86]
    refine mS_steps (pc' := 90) (ls' := [.ref 279, mU, .int a2, .int a3, mU, .int a5, mU, mU]) (st' := [.int (8 : Int32), .int a5]) (mem' := (mk x y)) 2 rfl ?_
    refine mS_ic3 rfl (fun _ => ?_) (fun _ => ?_)
    · refine mS_steps (pc' := 205) (ls' := [.ref 279, mU, .int a2, .int a3, mU, .int a5, mU, mU]) (st' := [.int a2, .ref 279]) (mem' := (mk x y)) 2 rfl ?_
      refine mS_puty rfl rfl (by decide) rfl ?_
      refine mS_lety (fun y7 => ?_)
      exact mS_retv ⟨_, _, _, _, _, rfl⟩ rfl
    · refine mS_steps (pc' := 96) (ls' := [.ref 279, mU, .int a2, .int a3, mU, .int a5, .int (0 : Int32), mU]) (st' := []) (mem' := (mk x y)) 2 rfl ?_
      refine f_X11_laysFarFrom_L96_snd a2 a3 a5 x _ ?_ mF (0 : Int32) y
      · intro y10
        refine mS_steps (pc' := 86) (ls' := [.ref 279, mU, .int a2, .int a3, mU, .int (a5 + (1 : Int32)), mU, mU]) (st' := []) (mem' := (mk x y10)) 2 rfl ?_
        exact ih (a5 + (1 : Int32)) y10
set_option maxRecDepth 20000 in
set_option maxHeartbeats 2000000 in
theorem f_X11_laysFarFrom_snd {fm : Value} {L : Nat} {xs : Nat → Int32} (p1 : Int32) (p2 : Int32) (p3 : Int32) (p4 : Int32) (y : mY) (x : mX) : mS fm L xs (fun r : mY => (mU, mk x r)) pg_X11_laysFarFrom 0 (m_entry [.ref 279, .int p1, .int p2, .int p3, .int p4] 8) [] (mk x y) ((f_X11_laysFarFrom p1 p2 p3 p4 y)) := by
  unfold f_X11_laysFarFrom
  refine mS_steps (pc' := 0) (ls' := [.ref 279, .int p1, .int p2, .int p3, .int p4, mU, mU, mU]) (st' := []) (mem' := (mk x y)) 0 rfl ?_
  refine mS_steps (pc' := 3) (ls' := [.ref 279, .int p1, .int p2, .int p3, .int p4, .int (0 : Int32), mU, mU]) (st' := []) (mem' := (mk x y)) 2 rfl ?_
  refine f_X11_laysFarFrom_L3_snd p1 p2 p3 p4 x _ ?_ mF (0 : Int32) y
  · intro y6
    refine mS_steps (pc' := 86) (ls' := [.ref 279, mU, .int p2, .int p3, mU, .int (2 : Int32), mU, mU]) (st' := []) (mem' := (mk x y6)) 2 rfl ?_
    refine f_X11_laysFarFrom_L86_snd p2 p3 x mF (2 : Int32) y6
def f_X11_canGo (p1 : Int32) (p2 : Int32) (p3 : Int32) (p4 : Int32) (y : mY) : Option Int32 := (if m_in ((8 : Int32) + p2) 24 = true then (if (f_X11_has (y.1 293 ((8 : Int32) + p2).toNatClampNeg) p3) = 0 then (some (0 : Int32)) else (m_jn (fun _ => (if m_in p2 8 = true then (if (y.1 308 p2.toNatClampNeg) = (1 : Int32) then (if m_nr 1 (f_X11_has p4 p3) = true then (some (f_X11_has p4 p3)) else none) else (if m_in p3 8 = true then (if m_in p2 8 = true then (if (y.1 308 p3.toNatClampNeg) = ((y.1 308 p2.toNatClampNeg) - (1 : Int32)) then (some (1 : Int32)) else (some (0 : Int32))) else none) else none)) else none)) (fun j1 => if p2 = (y.1 279 53) then (if p3 = p1 then (some (0 : Int32)) else (j1 ())) else (j1 ())))) else none)
set_option maxRecDepth 20000 in
set_option maxHeartbeats 2000000 in
theorem f_X11_canGo_snd {fm : Value} {L : Nat} {xs : Nat → Int32} (p1 : Int32) (p2 : Int32) (p3 : Int32) (p4 : Int32) (y : mY) (x : mX) : mS fm L xs (fun r : Int32 => (.int r, (mk x y))) pg_X11_canGo 0 (m_entry [.ref 279, .int p1, .int p2, .int p3, .int p4] 5) [] (mk x y) ((f_X11_canGo p1 p2 p3 p4 y)) := by
  unfold f_X11_canGo
  refine mS_steps (pc' := 0) (ls' := [.ref 279, .int p1, .int p2, .int p3, .int p4]) (st' := []) (mem' := (mk x y)) 0 rfl ?_
  refine mS_steps (pc' := 8) (ls' := [.ref 279, .int p1, .int p2, .int p3, .int p4]) (st' := [.int ((8 : Int32) + p2), .ref 293]) (mem' := (mk x y)) 5 rfl ?_
  refine mS_ald (b := 0) (n := 24) (z := (y.1 293 ((8 : Int32) + p2).toNatClampNeg)) rfl (by decide) rfl (by decide) rfl (fun _ => ?_)
  refine mS_steps (pc' := 10) (ls' := [.ref 279, .int p1, .int p2, .int p3, .int p4]) (st' := [.int p3, .int (y.1 293 ((8 : Int32) + p2).toNatClampNeg)]) (mem' := (mk x y)) 1 rfl ?_
  refine mS_call (q := (f_X11_has (y.1 293 ((8 : Int32) + p2).toNatClampNeg) p3)) 87 2 [.int (y.1 293 ((8 : Int32) + p2).toNatClampNeg), .int p3] [] rfl rfl rfl ⟨_, _, _, rfl, rfl⟩ (Nat.le_of_ble_eq_true rfl) (Nat.le_of_ble_eq_true rfl) rfl (f_X11_has_snd (y.1 293 ((8 : Int32) + p2).toNatClampNeg) p3 (mk x y)) ?_
  refine mS_steps (pc' := 13) (ls' := [.ref 279, .int p1, .int p2, .int p3, .int p4]) (st' := [.int (f_X11_has (y.1 293 ((8 : Int32) + p2).toNatClampNeg) p3)]) (mem' := (mk x y)) 0 rfl ?_
  refine mS_if0 rfl (fun _ => ?_) (fun _ => ?_)
  · refine mS_steps (pc' := 30) (ls' := [.ref 279, .int p1, .int p2, .int p3, .int p4]) (st' := [.int (0 : Int32)]) (mem' := (mk x y)) 1 rfl ?_
    exact mS_reti ⟨_, _, _, _, _, rfl, (by decide)⟩ rfl
  · refine mS_steps (pc' := 21) (ls' := [.ref 279, .int p1, .int p2, .int p3, .int p4]) (st' := [.int (y.1 279 53), .int p2]) (mem' := (mk x y)) 3 rfl ?_
    refine mS_jn (fun j => ∀ z : Unit, mS fm L xs (fun r : Int32 => (.int r, (mk x y))) pg_X11_canGo 31 [.ref 279, mU, .int p2, .int p3, .int p4] [] (mk x y) (j z)) ?_ ?_
    · intro z
      refine mS_steps (pc' := 36) (ls' := [.ref 279, mU, .int p2, .int p3, .int p4]) (st' := [.int p2, .ref 308]) (mem' := (mk x y)) 3 rfl ?_
      refine mS_ald (b := 0) (n := 8) (z := (y.1 308 p2.toNatClampNeg)) rfl (by decide) rfl (by decide) rfl (fun _ => ?_)
      refine mS_steps (pc' := 38) (ls' := [.ref 279, mU, .int p2, .int p3, .int p4]) (st' := [.int (1 : Int32), .int (y.1 308 p2.toNatClampNeg)]) (mem' := (mk x y)) 1 rfl ?_
      refine mS_ic1 rfl (fun _ => ?_) (fun _ => ?_)
      · refine mS_steps (pc' := 44) (ls' := [.ref 279, mU, .int p2, .int p3, .int p4]) (st' := [.int p3, .int p4]) (mem' := (mk x y)) 2 rfl ?_
        refine mS_call (q := (f_X11_has p4 p3)) 87 2 [.int p4, .int p3] [] rfl rfl rfl ⟨_, _, _, rfl, rfl⟩ (Nat.le_of_ble_eq_true rfl) (Nat.le_of_ble_eq_true rfl) rfl (f_X11_has_snd p4 p3 (mk x y)) ?_
        refine mS_steps (pc' := 72) (ls' := [.ref 279, mU, .int p2, .int p3, .int p4]) (st' := [.int (f_X11_has p4 p3)]) (mem' := (mk x y)) 1 rfl ?_
        refine mS_guard (fun hz => ?_)
        exact mS_reti ⟨_, _, _, _, _, rfl, hz⟩ rfl
      · refine mS_steps (pc' := 55) (ls' := [.ref 279, mU, .int p2, .int p3, .int p4]) (st' := [.int p3, .ref 308]) (mem' := (mk x y)) 3 rfl ?_
        refine mS_ald (b := 0) (n := 8) (z := (y.1 308 p3.toNatClampNeg)) rfl (by decide) rfl (by decide) rfl (fun _ => ?_)
        refine mS_steps (pc' := 61) (ls' := [.ref 279, mU, .int p2, .int p3, .int p4]) (st' := [.int p2, .ref 308, .int (y.1 308 p3.toNatClampNeg)]) (mem' := (mk x y)) 3 rfl ?_
        refine mS_ald (b := 0) (n := 8) (z := (y.1 308 p2.toNatClampNeg)) rfl (by decide) rfl (by decide) rfl (fun _ => ?_)
        refine mS_steps (pc' := 64) (ls' := [.ref 279, mU, .int p2, .int p3, .int p4]) (st' := [.int ((y.1 308 p2.toNatClampNeg) - (1 : Int32)), .int (y.1 308 p3.toNatClampNeg)]) (mem' := (mk x y)) 2 rfl ?_
        refine mS_ic1 rfl (fun _ => ?_) (fun _ => ?_)
        · refine mS_steps (pc' := 72) (ls' := [.ref 279, mU, .int p2, .int p3, .int p4]) (st' := [.int (1 : Int32)]) (mem' := (mk x y)) 2 rfl ?_
          exact mS_reti ⟨_, _, _, _, _, rfl, (by decide)⟩ rfl
        · refine mS_steps (pc' := 72) (ls' := [.ref 279, mU, .int p2, .int p3, .int p4]) (st' := [.int (0 : Int32)]) (mem' := (mk x y)) 1 rfl ?_
          exact mS_reti ⟨_, _, _, _, _, rfl, (by decide)⟩ rfl
    intro j1 hj1
    refine mS_ic1 rfl (fun _ => ?_) (fun _ => ?_)
    · refine mS_steps (pc' := 26) (ls' := [.ref 279, .int p1, .int p2, .int p3, .int p4]) (st' := [.int p1, .int p3]) (mem' := (mk x y)) 2 rfl ?_
      refine mS_ic1 rfl (fun _ => ?_) (fun _ => ?_)
      · refine mS_steps (pc' := 30) (ls' := [.ref 279, .int p1, .int p2, .int p3, .int p4]) (st' := [.int (0 : Int32)]) (mem' := (mk x y)) 1 rfl ?_
        exact mS_reti ⟨_, _, _, _, _, rfl, (by decide)⟩ rfl
      · refine mS_forget [.ref 279, mU, .int p2, .int p3, .int p4] ⟨Or.inr rfl, Or.inl rfl, Or.inr rfl, Or.inr rfl, Or.inr rfl, trivial⟩ ?_
        exact hj1 ()
    · refine mS_forget [.ref 279, mU, .int p2, .int p3, .int p4] ⟨Or.inr rfl, Or.inl rfl, Or.inr rfl, Or.inr rfl, Or.inr rfl, trivial⟩ ?_
      exact hj1 ()
def f_X11_laysEar_L141 (a1 : Int32) (a3 : Int32) (a4 : Int32) : Nat → Int32 → mY → (Int32 → Option mY) → Option mY
  | 0, _, _, _ => none
  | n + 1, a5, y, k160 => ((f_X11_canGo a1 a3 a5 a4 y).bind fun q13 => (if q13 = 0 then (f_X11_laysEar_L141 a1 a3 a4 n (a5 + (1 : Int32)) y k160) else (k160 a5)))
def f_X11_laysEar_L86 (a1 : Int32) (a2 : Int32) (a4 : Int32) : Nat → Int32 → mY → Option mY
  | 0, _, _ => none
  | n + 1, a3, y => (if (f_X11_has (y.1 279 49) a3) = 0 then (if m_in (y.1 279 48) 8 = true then (m_let (m_ys y 307 (y.1 279 48).toNatClampNeg a3) fun y9 => (m_let (m_ys y9 279 48 ((y9.1 279 48) + (1 : Int32))) fun y10 => (m_let (m_ys y10 279 49 ((y10.1 279 49) ||| ((1 : Int32) <<< (a3 &&& 31)))) fun y11 => ((f_X11_bitsOf a2).bind fun q12 => (if q12 = (2 : Int32) then (some y11) else (f_X11_laysEar_L141 a1 a3 a4 mF (0 : Int32) y11 (fun v14 => ((f_X11_goesTo a3 v14 y11).bind fun q15 => (if (f_X11_has a4 v14) = 0 then (f_X11_laysEar_L86 a1 a2 a4 n v14 q15) else (some q15)))))))))) else none) else (some y))
def f_X11_laysEar (p1 : Int32) (p2 : Int32) (y : mY) : Option mY := (if m_in ((10 : Int32) * (y.1 279 46)) 160 = true then (m_let (m_ys y 305 ((10 : Int32) * (y.1 279 46)).toNatClampNeg p1) fun y1 => (if m_in (y1.1 279 46) 16 = true then (m_let (m_ys y1 306 (y1.1 279 46).toNatClampNeg (1 : Int32)) fun y2 => ((f_X11_freeFrom p1 y2).bind fun q3 => ((f_X11_lowestOf q3).bind fun q4 => ((f_X11_goesTo p1 q4 y2).bind fun q5 => (if (f_X11_has (q5.1 279 49) q4) = 0 then (m_jn (fun w7 => ((f_X11_laysFarFrom p1 q4 p2 w7 q5).bind fun q8 => (f_X11_laysEar_L86 p1 p2 w7 mF q4 q8))) (fun j6 => if (q5.1 279 48) = (1 : Int32) then (j6 (q5.1 279 49)) else (j6 ((q5.1 279 49) &&& (((1 : Int32) <<< (p1 &&& 31)) ^^^ (-1 : Int32)))))) else (some q5)))))) else none)) else none)
set_option maxRecDepth 20000 in
set_option maxHeartbeats 2000000 in
theorem f_X11_laysEar_L141_snd {fm : Value} {L : Nat} {xs : Nat → Int32} (a1 : Int32) (a2 : Int32) (a3 : Int32) (a4 : Int32) (y : mY) (x : mX) (k160 : Int32 → Option mY) (hk160 : ∀ (b5 : Int32), mS fm L xs (fun r : mY => (mU, mk x r)) pg_X11_laysEar 160 [.ref 279, .int a1, .int a2, .int a3, .int a4, .int b5, mU] [] (mk x y) (k160 b5)) : ∀ (n : Nat) (a5 : Int32), mS fm L xs (fun r : mY => (mU, mk x r)) pg_X11_laysEar 141 [.ref 279, .int a1, .int a2, .int a3, .int a4, .int a5, mU] [] (mk x y) (f_X11_laysEar_L141 a1 a3 a4 n a5 y k160) := by
  intro n
  induction n with
  | zero => intro a5; exact mS_none
  | succ n ih =>
    intro a5
    rw [f_X11_laysEar_L141]
    refine mS_steps (pc' := 148) (ls' := [.ref 279, .int a1, .int a2, .int a3, .int a4, .int a5, mU]) (st' := [.int a4, .int a5, .int a3, .int a1, .ref 279]) (mem' := (mk x y)) 5 rfl ?_
    refine mS_bind (fun q13 hq13 => mS_call 226 5 [.ref 279, .int a1, .int a3, .int a5, .int a4] [] rfl rfl rfl ⟨_, _, _, rfl, rfl⟩ (Nat.le_of_ble_eq_true rfl) (Nat.le_of_ble_eq_true rfl) hq13 (f_X11_canGo_snd a1 a3 a5 a4 y x) ?_)
    refine mS_steps (pc' := 151) (ls' := [.ref 279, .int a1, .int a2, .int a3, .int a4, .int a5, mU]) (st' := [.int q13]) (mem' := (mk x y)) 0 rfl ?_
    refine mS_if1 rfl (fun _ => ?_) (fun _ => ?_)
    · refine mS_steps (pc' := 141) (ls' := [.ref 279, .int a1, .int a2, .int a3, .int a4, .int (a5 + (1 : Int32)), mU]) (st' := []) (mem' := (mk x y)) 2 rfl ?_
      exact ih (a5 + (1 : Int32))
    · exact hk160 a5
set_option maxRecDepth 20000 in
set_option maxHeartbeats 2000000 in
theorem f_X11_laysEar_L86_snd {fm : Value} {L : Nat} {xs : Nat → Int32} (a1 : Int32) (a2 : Int32) (a4 : Int32) (x : mX) : ∀ (n : Nat) (a3 : Int32) (y : mY), mS fm L xs (fun r : mY => (mU, mk x r)) pg_X11_laysEar 86 [.ref 279, .int a1, .int a2, .int a3, .int a4, mU, mU] [] (mk x y) (f_X11_laysEar_L86 a1 a2 a4 n a3 y) := by
  intro n
  induction n with
  | zero => intro a3 y; exact mS_none
  | succ n ih =>
    intro a3 y
    rw [f_X11_laysEar_L86]
    refine mS_steps (pc' := 91) (ls' := [.ref 279, .int a1, .int a2, .int a3, .int a4, mU, mU]) (st' := [.int a3, .int (y.1 279 49)]) (mem' := (mk x y)) 3 rfl ?_
    refine mS_call (q := (f_X11_has (y.1 279 49) a3)) 87 2 [.int (y.1 279 49), .int a3] [] rfl rfl rfl ⟨_, _, _, rfl, rfl⟩ (Nat.le_of_ble_eq_true rfl) (Nat.le_of_ble_eq_true rfl) rfl (f_X11_has_snd (y.1 279 49) a3 (mk x y)) ?_
    refine mS_steps (pc' := 94) (ls' := [.ref 279, .int a1, .int a2, .int a3, .int a4, mU, mU]) (st' := [.int (f_X11_has (y.1 279 49) a3)]) (mem' := (mk x y)) 0 rfl ?_
    refine mS_if1 rfl (fun _ => ?_) (fun _ => ?_)
    · refine mS_steps (pc' := 106) (ls' := [.ref 279, .int a1, .int a2, .int a3, .int a4, mU, mU]) (st' := [.int a3, .int (y.1 279 48), .ref 307]) (mem' := (mk x y)) 5 rfl ?_
      refine mS_ast0y (n := 8) rfl rfl (by decide) (fun _ => ?_)
      refine mS_lety (fun y9 => ?_)
      refine mS_steps (pc' := 114) (ls' := [.ref 279, .int a1, .int a2, .int a3, .int a4, mU, mU]) (st' := [.int ((y9.1 279 48) + (1 : Int32)), .ref 279]) (mem' := (mk x y9)) 5 rfl ?_
      refine mS_puty rfl rfl (by decide) rfl ?_
      refine mS_lety (fun y10 => ?_)
      refine mS_steps (pc' := 126) (ls' := [.ref 279, .int a1, .int a2, .int a3, .int a4, mU, mU]) (st' := [.int ((y10.1 279 49) ||| ((1 : Int32) <<< (a3 &&& 31))), .ref 279]) (mem' := (mk x y10)) 7 rfl ?_
      refine mS_puty rfl rfl (by decide) rfl ?_
      refine mS_lety (fun y11 => ?_)
      refine mS_steps (pc' := 130) (ls' := [.ref 279, .int a1, .int a2, .int a3, .int a4, mU, mU]) (st' := [.int a2]) (mem' := (mk x y11)) 1 rfl ?_
      refine mS_bind (fun q12 hq12 => mS_call 144 1 [.int a2] [] rfl rfl rfl ⟨_, _, _, rfl, rfl⟩ (Nat.le_of_ble_eq_true rfl) (Nat.le_of_ble_eq_true rfl) hq12 (f_X11_bitsOf_snd a2 (mk x y11)) ?_)
      refine mS_steps (pc' := 134) (ls' := [.ref 279, .int a1, .int a2, .int a3, .int a4, mU, mU]) (st' := [.int (2 : Int32), .int q12]) (mem' := (mk x y11)) 1 rfl ?_
      refine mS_ic1 rfl (fun _ => ?_) (fun _ => ?_)
      · exact mS_retv ⟨_, _, _, _, _, rfl⟩ rfl
      · refine mS_steps (pc' := 141) (ls' := [.ref 279, .int a1, .int a2, .int a3, .int a4, .int (0 : Int32), mU]) (st' := []) (mem' := (mk x y11)) 2 rfl ?_
        refine f_X11_laysEar_L141_snd a1 a2 a3 a4 y11 x _ ?_ mF (0 : Int32)
        · intro v14
          refine mS_steps (pc' := 164) (ls' := [.ref 279, .int a1, .int a2, .int a3, .int a4, .int v14, mU]) (st' := [.int v14, .int a4]) (mem' := (mk x y11)) 2 rfl ?_
          refine mS_call (q := (f_X11_has a4 v14)) 87 2 [.int a4, .int v14] [] rfl rfl rfl ⟨_, _, _, rfl, rfl⟩ (Nat.le_of_ble_eq_true rfl) (Nat.le_of_ble_eq_true rfl) rfl (f_X11_has_snd a4 v14 (mk x y11)) ?_
          refine mS_steps (pc' := 173) (ls' := [.ref 279, .int a1, .int a2, .int a3, .int a4, .int v14, .int (f_X11_has a4 v14)]) (st' := [.int v14, .int a3, .ref 279]) (mem' := (mk x y11)) 4 rfl ?_
          refine mS_bind (fun q15 hq15 => mS_call 224 3 [.ref 279, .int a3, .int v14] [] rfl rfl rfl ⟨_, _, _, rfl, rfl⟩ (Nat.le_of_ble_eq_true rfl) (Nat.le_of_ble_eq_true rfl) hq15 (f_X11_goesTo_snd a3 v14 y11 x) ?_)
          refine mS_steps (pc' := 181) (ls' := [.ref 279, .int a1, .int a2, .int v14, .int a4, .int v14, .int (f_X11_has a4 v14)]) (st' := [.int (f_X11_has a4 v14)]) (mem' := (mk x q15)) 3 rfl ?_
          refine mS_if0 rfl (fun _ => ?_) (fun _ => ?_)
          · refine mS_steps (pc' := 86) (ls' := [.ref 279, .int a1, .int a2, .int v14, .int a4, .int v14, .int (f_X11_has a4 v14)]) (st' := []) (mem' := (mk x q15)) 1 rfl ?_
            refine mS_forget [.ref 279, .int a1, .int a2, .int v14, .int a4, mU, mU] ⟨Or.inr rfl, Or.inr rfl, Or.inr rfl, Or.inr rfl, Or.inr rfl, Or.inl rfl, Or.inl rfl, trivial⟩ ?_
            exact ih v14 q15
          · exact mS_retv ⟨_, _, _, _, _, rfl⟩ rfl
    · exact mS_retv ⟨_, _, _, _, _, rfl⟩ rfl
set_option maxRecDepth 20000 in
set_option maxHeartbeats 2000000 in
theorem f_X11_laysEar_snd {fm : Value} {L : Nat} {xs : Nat → Int32} (p1 : Int32) (p2 : Int32) (y : mY) (x : mX) : mS fm L xs (fun r : mY => (mU, mk x r)) pg_X11_laysEar 0 (m_entry [.ref 279, .int p1, .int p2] 7) [] (mk x y) ((f_X11_laysEar p1 p2 y)) := by
  unfold f_X11_laysEar
  refine mS_steps (pc' := 0) (ls' := [.ref 279, .int p1, .int p2, mU, mU, mU, mU]) (st' := []) (mem' := (mk x y)) 0 rfl ?_
  refine mS_steps (pc' := 12) (ls' := [.ref 279, .int p1, .int p2, mU, mU, mU, mU]) (st' := [.int p1, .int ((10 : Int32) * (y.1 279 46)), .ref 305]) (mem' := (mk x y)) 7 rfl ?_
  refine mS_ast0y (n := 160) rfl rfl (by decide) (fun _ => ?_)
  refine mS_lety (fun y1 => ?_)
  refine mS_steps (pc' := 22) (ls' := [.ref 279, .int p1, .int p2, mU, mU, mU, mU]) (st' := [.int (1 : Int32), .int (y1.1 279 46), .ref 306]) (mem' := (mk x y1)) 5 rfl ?_
  refine mS_ast0y (n := 16) rfl rfl (by decide) (fun _ => ?_)
  refine mS_lety (fun y2 => ?_)
  refine mS_steps (pc' := 25) (ls' := [.ref 279, .int p1, .int p2, mU, mU, mU, mU]) (st' := [.int p1, .ref 279]) (mem' := (mk x y2)) 2 rfl ?_
  refine mS_bind (fun q3 hq3 => mS_call 223 2 [.ref 279, .int p1] [] rfl rfl rfl ⟨_, _, _, rfl, rfl⟩ (Nat.le_of_ble_eq_true rfl) (Nat.le_of_ble_eq_true rfl) hq3 (f_X11_freeFrom_snd p1 y2 x) ?_)
  refine mS_steps (pc' := 28) (ls' := [.ref 279, .int p1, .int p2, mU, mU, mU, mU]) (st' := [.int q3]) (mem' := (mk x y2)) 0 rfl ?_
  refine mS_bind (fun q4 hq4 => mS_call 145 1 [.int q3] [] rfl rfl rfl ⟨_, _, _, rfl, rfl⟩ (Nat.le_of_ble_eq_true rfl) (Nat.le_of_ble_eq_true rfl) hq4 (f_X11_lowestOf_snd q3 (mk x y2)) ?_)
  refine mS_steps (pc' := 35) (ls' := [.ref 279, .int p1, .int p2, .int q4, mU, mU, mU]) (st' := [.int q4, .int p1, .ref 279]) (mem' := (mk x y2)) 4 rfl ?_
  refine mS_bind (fun q5 hq5 => mS_call 224 3 [.ref 279, .int p1, .int q4] [] rfl rfl rfl ⟨_, _, _, rfl, rfl⟩ (Nat.le_of_ble_eq_true rfl) (Nat.le_of_ble_eq_true rfl) hq5 (f_X11_goesTo_snd p1 q4 y2 x) ?_)
  refine mS_steps (pc' := 43) (ls' := [.ref 279, .int p1, .int p2, .int q4, mU, mU, mU]) (st' := [.int q4, .int (q5.1 279 49)]) (mem' := (mk x q5)) 3 rfl ?_
  refine mS_call (q := (f_X11_has (q5.1 279 49) q4)) 87 2 [.int (q5.1 279 49), .int q4] [] rfl rfl rfl ⟨_, _, _, rfl, rfl⟩ (Nat.le_of_ble_eq_true rfl) (Nat.le_of_ble_eq_true rfl) rfl (f_X11_has_snd (q5.1 279 49) q4 (mk x q5)) ?_
  refine mS_steps (pc' := 46) (ls' := [.ref 279, .int p1, .int p2, .int q4, mU, mU, mU]) (st' := [.int (f_X11_has (q5.1 279 49) q4)]) (mem' := (mk x q5)) 0 rfl ?_
  refine mS_if0 rfl (fun _ => ?_) (fun _ => ?_)
  · refine mS_steps (pc' := 55) (ls' := [.ref 279, .int p1, .int p2, .int q4, mU, mU, mU]) (st' := [.int (1 : Int32), .int (q5.1 279 48)]) (mem' := (mk x q5)) 3 rfl ?_
    refine mS_jn (fun j => ∀ z : Int32, mS fm L xs (fun r : mY => (mU, mk x r)) pg_X11_laysEar 75 [.ref 279, .int p1, .int p2, .int q4, mU, mU, mU] [.int z] (mk x q5) (j z)) ?_ ?_
    · intro z
      revert z; intro w7
      refine mS_steps (pc' := 83) (ls' := [.ref 279, .int p1, .int p2, .int q4, .int w7, mU, mU]) (st' := [.int w7, .int p2, .int q4, .int p1, .ref 279]) (mem' := (mk x q5)) 6 rfl ?_
      refine mS_bind (fun q8 hq8 => mS_call 225 5 [.ref 279, .int p1, .int q4, .int p2, .int w7] [] rfl rfl rfl ⟨_, _, _, rfl, rfl⟩ (Nat.le_of_ble_eq_true rfl) (Nat.le_of_ble_eq_true rfl) hq8 (f_X11_laysFarFrom_snd p1 q4 p2 w7 q5 x) ?_)
      refine mS_steps (pc' := 86) (ls' := [.ref 279, .int p1, .int p2, .int q4, .int w7, mU, mU]) (st' := []) (mem' := (mk x q8)) 0 rfl ?_
      refine f_X11_laysEar_L86_snd p1 p2 w7 x mF q4 q8
    intro j6 hj6
    refine mS_ic1 rfl (fun _ => ?_) (fun _ => ?_)
    · refine mS_steps (pc' := 75) (ls' := [.ref 279, .int p1, .int p2, .int q4, mU, mU, mU]) (st' := [.int (q5.1 279 49)]) (mem' := (mk x q5)) 3 rfl ?_
      exact hj6 (q5.1 279 49)
    · refine mS_steps (pc' := 75) (ls' := [.ref 279, .int p1, .int p2, .int q4, mU, mU, mU]) (st' := [.int ((q5.1 279 49) &&& (((1 : Int32) <<< (p1 &&& 31)) ^^^ (-1 : Int32)))]) (mem' := (mk x q5)) 8 rfl ?_
      exact hj6 ((q5.1 279 49) &&& (((1 : Int32) <<< (p1 &&& 31)) ^^^ (-1 : Int32)))
  · exact mS_retv ⟨_, _, _, _, _, rfl⟩ rfl
def f_X11_laysEars_L20 (a2 : Int32) : Nat → Int32 → mY → (mY → Option mY) → Option mY
  | 0, _, _, _ => none
  | n + 1, a3, y, k93 => (if (y.1 289 4) ≤ a3 then (k93 y) else (if (f_X11_has (y.1 289 3) a3) = 0 then (f_X11_laysEars_L20 a2 n (a3 + (1 : Int32)) y k93) else (if m_in ((8 : Int32) + a3) 72 = true then (if (f_X11_has a2 (y.1 289 ((8 : Int32) + a3).toNatClampNeg)) = 0 then (f_X11_laysEars_L20 a2 n (a3 + (1 : Int32)) y k93) else (if m_in ((24 : Int32) + a3) 72 = true then (if (f_X11_has a2 (y.1 289 ((24 : Int32) + a3).toNatClampNeg)) = 0 then (f_X11_laysEars_L20 a2 n (a3 + (1 : Int32)) y k93) else (m_let (m_ys y 279 51 ((y.1 279 51) ||| ((1 : Int32) <<< (a3 &&& 31)))) fun y3 => (f_X11_laysEars_L20 a2 n (a3 + (1 : Int32)) y3 k93))) else none)) else none)))
def f_X11_laysEars_L145 : Nat → Int32 → mY → (Int32 → Option mY) → Option mY
  | 0, _, _, _ => none
  | n + 1, a3, y, k164 => (if m_in a3 8 = true then ((f_X11_freeFrom (y.1 307 a3.toNatClampNeg) y).bind fun q10 => (if q10 = 0 then (f_X11_laysEars_L145 n (a3 + (1 : Int32)) y k164) else (k164 a3))) else none)
def f_X11_laysEars_L132 (a2 : Int32) : Nat → mY → Option mY
  | 0, _ => none
  | n + 1, y => (if (y.1 279 50) = (y.1 279 51) then (some y) else (f_X11_laysEars_L145 mF (0 : Int32) y (fun v11 => (if m_in v11 8 = true then ((f_X11_laysEar (y.1 307 v11.toNatClampNeg) a2 y).bind fun q12 => (m_let (m_ys q12 279 46 ((q12.1 279 46) + (1 : Int32))) fun y13 => (f_X11_laysEars_L132 a2 n y13))) else none))))
def f_X11_laysEars (p1 : Int32) (y : mY) : Option mY := ((f_X11_laysNet (1 : Int32) y).bind fun q1 => (if m_in p1 64 = true then (m_let (m_ys q1.2 279 51 (0 : Int32)) fun y2 => (f_X11_laysEars_L20 (q1.2.1 296 p1.toNatClampNeg) mF (0 : Int32) y2 (fun y4 => (m_let (m_ys y4 279 46 (0 : Int32)) fun y5 => (m_let (m_ys y5 279 50 (0 : Int32)) fun y6 => (m_let (m_ys y6 279 48 (1 : Int32)) fun y7 => (if m_in p1 64 = true then (m_let (m_ys y7 307 0 (y7.1 297 p1.toNatClampNeg)) fun y8 => (if m_in p1 64 = true then (m_let (m_ys y8 279 49 ((1 : Int32) <<< ((y8.1 297 p1.toNatClampNeg) &&& 31))) fun y9 => (f_X11_laysEars_L132 (q1.2.1 296 p1.toNatClampNeg) mF y9)) else none)) else none))))))) else none))
set_option maxRecDepth 20000 in
set_option maxHeartbeats 2000000 in
theorem f_X11_laysEars_L20_snd {fm : Value} {L : Nat} {xs : Nat → Int32} (a1 : Int32) (a2 : Int32) (x : mX) (k93 : mY → Option mY) (hk93 : ∀ (z0 : mY), mS fm L xs (fun r : mY => (mU, mk x r)) pg_X11_laysEars 93 [.ref 279, .int a1, .int a2, mU] [] (mk x z0) (k93 z0)) : ∀ (n : Nat) (a3 : Int32) (y : mY), mS fm L xs (fun r : mY => (mU, mk x r)) pg_X11_laysEars 20 [.ref 279, .int a1, .int a2, .int a3] [] (mk x y) (f_X11_laysEars_L20 a2 n a3 y k93) := by
  intro n
  induction n with
  | zero => intro a3 y; exact mS_none
  | succ n ih =>
    intro a3 y
    rw [f_X11_laysEars_L20]
    refine mS_steps (pc' := 26) (ls' := [.ref 279, .int a1, .int a2, .int a3]) (st' := [.int (4 : Int32), .ref 289, .int a3]) (mem' := (mk x y)) 4 rfl ?_
    refine mS_aldc (b := 0) (n := 72) (c := 4) (z := (y.1 289 4)) rfl (by decide) rfl (by decide) (by decide) (by decide) rfl ?_
    refine mS_ic3 rfl (fun _ => ?_) (fun _ => ?_)
    · refine mS_forget [.ref 279, .int a1, .int a2, mU] ⟨Or.inr rfl, Or.inr rfl, Or.inr rfl, Or.inl rfl, trivial⟩ ?_
      exact hk93 y
    · refine mS_steps (pc' := 35) (ls' := [.ref 279, .int a1, .int a2, .int a3]) (st' := [.int (3 : Int32), .ref 289]) (mem' := (mk x y)) 3 rfl ?_
      refine mS_aldc (b := 0) (n := 72) (c := 3) (z := (y.1 289 3)) rfl (by decide) rfl (by decide) (by decide) (by decide) rfl ?_
      refine mS_steps (pc' := 37) (ls' := [.ref 279, .int a1, .int a2, .int a3]) (st' := [.int a3, .int (y.1 289 3)]) (mem' := (mk x y)) 1 rfl ?_
      refine mS_call (q := (f_X11_has (y.1 289 3) a3)) 87 2 [.int (y.1 289 3), .int a3] [] rfl rfl rfl ⟨_, _, _, rfl, rfl⟩ (Nat.le_of_ble_eq_true rfl) (Nat.le_of_ble_eq_true rfl) rfl (f_X11_has_snd (y.1 289 3) a3 (mk x y)) ?_
      refine mS_steps (pc' := 40) (ls' := [.ref 279, .int a1, .int a2, .int a3]) (st' := [.int (f_X11_has (y.1 289 3) a3)]) (mem' := (mk x y)) 0 rfl ?_
      refine mS_if0 rfl (fun _ => ?_) (fun _ => ?_)
      · refine mS_steps (pc' := 20) (ls' := [.ref 279, .int a1, .int a2, .int (a3 + (1 : Int32))]) (st' := []) (mem' := (mk x y)) 2 rfl ?_
        exact ih (a3 + (1 : Int32)) y
      · refine mS_steps (pc' := 52) (ls' := [.ref 279, .int a1, .int a2, .int a3]) (st' := [.int ((8 : Int32) + a3), .ref 289, .int a2]) (mem' := (mk x y)) 6 rfl ?_
        refine mS_ald (b := 0) (n := 72) (z := (y.1 289 ((8 : Int32) + a3).toNatClampNeg)) rfl (by decide) rfl (by decide) rfl (fun _ => ?_)
        refine mS_call (q := (f_X11_has a2 (y.1 289 ((8 : Int32) + a3).toNatClampNeg))) 87 2 [.int a2, .int (y.1 289 ((8 : Int32) + a3).toNatClampNeg)] [] rfl rfl rfl ⟨_, _, _, rfl, rfl⟩ (Nat.le_of_ble_eq_true rfl) (Nat.le_of_ble_eq_true rfl) rfl (f_X11_has_snd a2 (y.1 289 ((8 : Int32) + a3).toNatClampNeg) (mk x y)) ?_
        refine mS_steps (pc' := 56) (ls' := [.ref 279, .int a1, .int a2, .int a3]) (st' := [.int (f_X11_has a2 (y.1 289 ((8 : Int32) + a3).toNatClampNeg))]) (mem' := (mk x y)) 0 rfl ?_
        refine mS_if0 rfl (fun _ => ?_) (fun _ => ?_)
        · refine mS_steps (pc' := 20) (ls' := [.ref 279, .int a1, .int a2, .int (a3 + (1 : Int32))]) (st' := []) (mem' := (mk x y)) 2 rfl ?_
          exact ih (a3 + (1 : Int32)) y
        · refine mS_steps (pc' := 68) (ls' := [.ref 279, .int a1, .int a2, .int a3]) (st' := [.int ((24 : Int32) + a3), .ref 289, .int a2]) (mem' := (mk x y)) 6 rfl ?_
          refine mS_ald (b := 0) (n := 72) (z := (y.1 289 ((24 : Int32) + a3).toNatClampNeg)) rfl (by decide) rfl (by decide) rfl (fun _ => ?_)
          refine mS_call (q := (f_X11_has a2 (y.1 289 ((24 : Int32) + a3).toNatClampNeg))) 87 2 [.int a2, .int (y.1 289 ((24 : Int32) + a3).toNatClampNeg)] [] rfl rfl rfl ⟨_, _, _, rfl, rfl⟩ (Nat.le_of_ble_eq_true rfl) (Nat.le_of_ble_eq_true rfl) rfl (f_X11_has_snd a2 (y.1 289 ((24 : Int32) + a3).toNatClampNeg) (mk x y)) ?_
          refine mS_steps (pc' := 72) (ls' := [.ref 279, .int a1, .int a2, .int a3]) (st' := [.int (f_X11_has a2 (y.1 289 ((24 : Int32) + a3).toNatClampNeg))]) (mem' := (mk x y)) 0 rfl ?_
          refine mS_if0 rfl (fun _ => ?_) (fun _ => ?_)
          · refine mS_steps (pc' := 20) (ls' := [.ref 279, .int a1, .int a2, .int (a3 + (1 : Int32))]) (st' := []) (mem' := (mk x y)) 2 rfl ?_
            exact ih (a3 + (1 : Int32)) y
          · refine mS_steps (pc' := 84) (ls' := [.ref 279, .int a1, .int a2, .int a3]) (st' := [.int ((y.1 279 51) ||| ((1 : Int32) <<< (a3 &&& 31))), .ref 279]) (mem' := (mk x y)) 7 rfl ?_
            refine mS_puty rfl rfl (by decide) rfl ?_
            refine mS_lety (fun y3 => ?_)
            refine mS_steps (pc' := 20) (ls' := [.ref 279, .int a1, .int a2, .int (a3 + (1 : Int32))]) (st' := []) (mem' := (mk x y3)) 2 rfl ?_
            exact ih (a3 + (1 : Int32)) y3
set_option maxRecDepth 20000 in
set_option maxHeartbeats 2000000 in
theorem f_X11_laysEars_L145_snd {fm : Value} {L : Nat} {xs : Nat → Int32} (a2 : Int32) (y : mY) (x : mX) (k164 : Int32 → Option mY) (hk164 : ∀ (b3 : Int32), mS fm L xs (fun r : mY => (mU, mk x r)) pg_X11_laysEars 164 [.ref 279, mU, .int a2, .int b3] [] (mk x y) (k164 b3)) : ∀ (n : Nat) (a3 : Int32), mS fm L xs (fun r : mY => (mU, mk x r)) pg_X11_laysEars 145 [.ref 279, mU, .int a2, .int a3] [] (mk x y) (f_X11_laysEars_L145 n a3 y k164) := by
  intro n
  induction n with
  | zero => intro a3; exact mS_none
  | succ n ih =>
    intro a3
    rw [f_X11_laysEars_L145]
    refine mS_steps (pc' := 151) (ls' := [.ref 279, mU, .int a2, .int a3]) (st' := [.int a3, .ref 307, .ref 279]) (mem' := (mk x y)) 4 rfl ?_
    refine mS_ald (b := 0) (n := 8) (z := (y.1 307 a3.toNatClampNeg)) rfl (by decide) rfl (by decide) rfl (fun _ => ?_)
    refine mS_bind (fun q10 hq10 => mS_call 223 2 [.ref 279, .int (y.1 307 a3.toNatClampNeg)] [] rfl rfl rfl ⟨_, _, _, rfl, rfl⟩ (Nat.le_of_ble_eq_true rfl) (Nat.le_of_ble_eq_true rfl) hq10 (f_X11_freeFrom_snd (y.1 307 a3.toNatClampNeg) y x) ?_)
    refine mS_steps (pc' := 155) (ls' := [.ref 279, mU, .int a2, .int a3]) (st' := [.int q10]) (mem' := (mk x y)) 0 rfl ?_
    refine mS_if1 rfl (fun _ => ?_) (fun _ => ?_)
    · refine mS_steps (pc' := 145) (ls' := [.ref 279, mU, .int a2, .int (a3 + (1 : Int32))]) (st' := []) (mem' := (mk x y)) 2 rfl ?_
      exact ih (a3 + (1 : Int32))
    · exact hk164 a3
set_option maxRecDepth 20000 in
set_option maxHeartbeats 2000000 in
theorem f_X11_laysEars_L132_snd {fm : Value} {L : Nat} {xs : Nat → Int32} (a2 : Int32) (x : mX) : ∀ (n : Nat) (y : mY), mS fm L xs (fun r : mY => (mU, mk x r)) pg_X11_laysEars 132 [.ref 279, mU, .int a2, mU] [] (mk x y) (f_X11_laysEars_L132 a2 n y) := by
  intro n
  induction n with
  | zero => intro y; exact mS_none
  | succ n ih =>
    intro y
    rw [f_X11_laysEars_L132]
    refine mS_steps (pc' := 140) (ls' := [.ref 279, mU, .int a2, mU]) (st' := [.int (y.1 279 51), .int (y.1 279 50)]) (mem' := (mk x y)) 4 rfl ?_
    refine mS_ic0 rfl (fun _ => ?_) (fun _ => ?_)
    · exact mS_retv ⟨_, _, _, _, _, rfl⟩ rfl
    · refine mS_steps (pc' := 145) (ls' := [.ref 279, mU, .int a2, .int (0 : Int32)]) (st' := []) (mem' := (mk x y)) 2 rfl ?_
      refine f_X11_laysEars_L145_snd a2 y x _ ?_ mF (0 : Int32)
      · intro v11
        refine mS_steps (pc' := 170) (ls' := [.ref 279, mU, .int a2, .int v11]) (st' := [.int v11, .ref 307, .ref 279]) (mem' := (mk x y)) 4 rfl ?_
        refine mS_ald (b := 0) (n := 8) (z := (y.1 307 v11.toNatClampNeg)) rfl (by decide) rfl (by decide) rfl (fun _ => ?_)
        refine mS_steps (pc' := 172) (ls' := [.ref 279, mU, .int a2, .int v11]) (st' := [.int a2, .int (y.1 307 v11.toNatClampNeg), .ref 279]) (mem' := (mk x y)) 1 rfl ?_
        refine mS_bind (fun q12 hq12 => mS_call 227 3 [.ref 279, .int (y.1 307 v11.toNatClampNeg), .int a2] [] rfl rfl rfl ⟨_, _, _, rfl, rfl⟩ (Nat.le_of_ble_eq_true rfl) (Nat.le_of_ble_eq_true rfl) hq12 (f_X11_laysEar_snd (y.1 307 v11.toNatClampNeg) a2 y x) ?_)
        refine mS_steps (pc' := 182) (ls' := [.ref 279, mU, .int a2, .int v11]) (st' := [.int ((q12.1 279 46) + (1 : Int32)), .ref 279]) (mem' := (mk x q12)) 5 rfl ?_
        refine mS_puty rfl rfl (by decide) rfl ?_
        refine mS_lety (fun y13 => ?_)
        refine mS_steps (pc' := 132) (ls' := [.ref 279, mU, .int a2, .int v11]) (st' := []) (mem' := (mk x y13)) 1 rfl ?_
        refine mS_forget [.ref 279, mU, .int a2, mU] ⟨Or.inr rfl, Or.inl rfl, Or.inr rfl, Or.inl rfl, trivial⟩ ?_
        exact ih y13
set_option maxRecDepth 20000 in
set_option maxHeartbeats 2000000 in
theorem f_X11_laysEars_snd {fm : Value} {L : Nat} {xs : Nat → Int32} (p1 : Int32) (y : mY) (x : mX) : mS fm L xs (fun r : mY => (mU, mk x r)) pg_X11_laysEars 0 (m_entry [.ref 279, .int p1] 4) [] (mk x y) ((f_X11_laysEars p1 y)) := by
  unfold f_X11_laysEars
  refine mS_steps (pc' := 0) (ls' := [.ref 279, .int p1, mU, mU]) (st' := []) (mem' := (mk x y)) 0 rfl ?_
  refine mS_steps (pc' := 2) (ls' := [.ref 279, .int p1, mU, mU]) (st' := [.int (1 : Int32), .ref 279]) (mem' := (mk x y)) 2 rfl ?_
  refine mS_bind (fun q1 hq1 => mS_call 143 2 [.ref 279, .int (1 : Int32)] [] rfl rfl rfl ⟨_, _, _, rfl, rfl⟩ (Nat.le_of_ble_eq_true rfl) (Nat.le_of_ble_eq_true rfl) hq1 (f_X11_laysNet_snd (1 : Int32) y x) ?_)
  refine mS_steps (pc' := 11) (ls' := [.ref 279, .int p1, mU, mU]) (st' := [.int p1, .ref 296]) (mem' := (mk x q1.2)) 4 rfl ?_
  refine mS_ald (b := 0) (n := 64) (z := (q1.2.1 296 p1.toNatClampNeg)) rfl (by decide) rfl (by decide) rfl (fun _ => ?_)
  refine mS_steps (pc' := 15) (ls' := [.ref 279, .int p1, .int (q1.2.1 296 p1.toNatClampNeg), mU]) (st' := [.int (0 : Int32), .ref 279]) (mem' := (mk x q1.2)) 3 rfl ?_
  refine mS_puty rfl rfl (by decide) rfl ?_
  refine mS_lety (fun y2 => ?_)
  refine mS_steps (pc' := 20) (ls' := [.ref 279, .int p1, .int (q1.2.1 296 p1.toNatClampNeg), .int (0 : Int32)]) (st' := []) (mem' := (mk x y2)) 2 rfl ?_
  refine f_X11_laysEars_L20_snd p1 (q1.2.1 296 p1.toNatClampNeg) x _ ?_ mF (0 : Int32) y2
  · intro y4
    refine mS_steps (pc' := 95) (ls' := [.ref 279, .int p1, .int (q1.2.1 296 p1.toNatClampNeg), mU]) (st' := [.int (0 : Int32), .ref 279]) (mem' := (mk x y4)) 2 rfl ?_
    refine mS_puty rfl rfl (by decide) rfl ?_
    refine mS_lety (fun y5 => ?_)
    refine mS_steps (pc' := 100) (ls' := [.ref 279, .int p1, .int (q1.2.1 296 p1.toNatClampNeg), mU]) (st' := [.int (0 : Int32), .ref 279]) (mem' := (mk x y5)) 2 rfl ?_
    refine mS_puty rfl rfl (by decide) rfl ?_
    refine mS_lety (fun y6 => ?_)
    refine mS_steps (pc' := 105) (ls' := [.ref 279, .int p1, .int (q1.2.1 296 p1.toNatClampNeg), mU]) (st' := [.int (1 : Int32), .ref 279]) (mem' := (mk x y6)) 2 rfl ?_
    refine mS_puty rfl rfl (by decide) rfl ?_
    refine mS_lety (fun y7 => ?_)
    refine mS_steps (pc' := 118) (ls' := [.ref 279, .int p1, .int (q1.2.1 296 p1.toNatClampNeg), mU]) (st' := [.int p1, .ref 297, .int (0 : Int32), .ref 307]) (mem' := (mk x y7)) 6 rfl ?_
    refine mS_ald (b := 0) (n := 64) (z := (y7.1 297 p1.toNatClampNeg)) rfl (by decide) rfl (by decide) rfl (fun _ => ?_)
    refine mS_ast0yc (n := 8) (c := 0) rfl rfl (by decide) (by decide) (by decide) ?_
    refine mS_lety (fun y8 => ?_)
    refine mS_steps (pc' := 127) (ls' := [.ref 279, .int p1, .int (q1.2.1 296 p1.toNatClampNeg), mU]) (st' := [.int p1, .ref 297, .int (1 : Int32), .ref 279]) (mem' := (mk x y8)) 5 rfl ?_
    refine mS_ald (b := 0) (n := 64) (z := (y8.1 297 p1.toNatClampNeg)) rfl (by decide) rfl (by decide) rfl (fun _ => ?_)
    refine mS_steps (pc' := 129) (ls' := [.ref 279, .int p1, .int (q1.2.1 296 p1.toNatClampNeg), mU]) (st' := [.int ((1 : Int32) <<< ((y8.1 297 p1.toNatClampNeg) &&& 31)), .ref 279]) (mem' := (mk x y8)) 1 rfl ?_
    refine mS_puty rfl rfl (by decide) rfl ?_
    refine mS_lety (fun y9 => ?_)
    refine mS_forget [.ref 279, mU, .int (q1.2.1 296 p1.toNatClampNeg), mU] ⟨Or.inr rfl, Or.inl rfl, Or.inr rfl, Or.inl rfl, trivial⟩ ?_
    refine f_X11_laysEars_L132_snd (q1.2.1 296 p1.toNatClampNeg) x mF y9
