/-! ===== methods as functions (written by wip/whole/gen/emitall.py) ===== -/
def f_X11_ear (p1 : Int32) (p2 : Int32) (p3 : Int32) (p4 : Int32) (y : mY) : Option (Int32 × mY) := ((f_X11_placeOf p1 p2 y).bind fun q1 => (if 0 ≤ q1.1 then ((f_X11_laysEars q1.1 q1.2).bind fun q2 => (if p3 = (-1 : Int32) then (some ((q2.1 279 46), q2)) else (if (f_X11_in p3 (0 : Int32) ((q2.1 279 46) - (1 : Int32))) = 0 then (some ((-1 : Int32), q2)) else (if p4 = (-1 : Int32) then (if m_in p3 16 = true then (some ((q2.1 306 p3.toNatClampNeg), q2)) else none) else (if m_in p3 16 = true then (if (f_X11_in p4 (0 : Int32) ((q2.1 306 p3.toNatClampNeg) - (1 : Int32))) = 0 then (some ((-1 : Int32), q2)) else (if m_in (((10 : Int32) * p3) + p4) 160 = true then (some ((q2.1 305 (((10 : Int32) * p3) + p4).toNatClampNeg), q2)) else none)) else none))))) else (some ((-1 : Int32), q1.2))))
set_option maxRecDepth 20000 in
set_option maxHeartbeats 2000000 in
theorem f_X11_ear_snd {fm : Value} {L : Nat} {xs : Nat → Int32} (p1 : Int32) (p2 : Int32) (p3 : Int32) (p4 : Int32) (y : mY) (x : mX) : mS fm L xs (fun r : (Int32 × mY) => (.int r.1, mk x r.2)) pg_X11_ear 0 (m_entry [.ref 279, .int p1, .int p2, .int p3, .int p4] 6) [] (mk x y) ((f_X11_ear p1 p2 p3 p4 y)) := by
  unfold f_X11_ear
  refine mS_steps (pc' := 0) (ls' := [.ref 279, .int p1, .int p2, .int p3, .int p4, mU]) (st' := []) (mem' := (mk x y)) 0 rfl ?_
  refine mS_steps (pc' := 3) (ls' := [.ref 279, .int p1, .int p2, .int p3, .int p4, mU]) (st' := [.int p2, .int p1, .ref 279]) (mem' := (mk x y)) 3 rfl ?_
  refine mS_bind (fun q1 hq1 => mS_call 189 3 [.ref 279, .int p1, .int p2] [] rfl rfl rfl ⟨_, _, _, rfl, rfl⟩ (Nat.le_of_ble_eq_true rfl) (Nat.le_of_ble_eq_true rfl) hq1 (f_X11_placeOf_snd p1 p2 y x) ?_)
  refine mS_steps (pc' := 10) (ls' := [.ref 279, .int p1, .int p2, .int p3, .int p4, .int q1.1]) (st' := [.int q1.1]) (mem' := (mk x q1.2)) 2 rfl ?_
  refine mS_if3 rfl (fun _ => ?_) (fun _ => ?_)
  · refine mS_steps (pc' := 18) (ls' := [.ref 279, .int p1, .int p2, .int p3, .int p4, .int q1.1]) (st' := [.int q1.1, .ref 279]) (mem' := (mk x q1.2)) 2 rfl ?_
    refine mS_bind (fun q2 hq2 => mS_call 228 2 [.ref 279, .int q1.1] [] rfl rfl rfl ⟨_, _, _, rfl, rfl⟩ (Nat.le_of_ble_eq_true rfl) (Nat.le_of_ble_eq_true rfl) hq2 (f_X11_laysEars_snd q1.1 q1.2 x) ?_)
    refine mS_steps (pc' := 23) (ls' := [.ref 279, .int p1, .int p2, .int p3, .int p4, .int q1.1]) (st' := [.int (-1 : Int32), .int p3]) (mem' := (mk x q2)) 2 rfl ?_
    refine mS_ic1 rfl (fun _ => ?_) (fun _ => ?_)
    · refine mS_steps (pc' := 30) (ls' := [.ref 279, .int p1, .int p2, .int p3, .int p4, .int q1.1]) (st' := [.int (q2.1 279 46)]) (mem' := (mk x q2)) 2 rfl ?_
      exact mS_reti ⟨_, _, _, _, _, rfl, rfl⟩ rfl
    · refine mS_steps (pc' := 39) (ls' := [.ref 279, .int p1, .int p2, .int p3, .int p4, .int q1.1]) (st' := [.int ((q2.1 279 46) - (1 : Int32)), .int (0 : Int32), .int p3]) (mem' := (mk x q2)) 6 rfl ?_
      refine mS_call (q := (f_X11_in p3 (0 : Int32) ((q2.1 279 46) - (1 : Int32)))) 83 3 [.int p3, .int (0 : Int32), .int ((q2.1 279 46) - (1 : Int32))] [] rfl rfl rfl ⟨_, _, _, rfl, rfl⟩ (Nat.le_of_ble_eq_true rfl) (Nat.le_of_ble_eq_true rfl) rfl (f_X11_in_snd p3 (0 : Int32) ((q2.1 279 46) - (1 : Int32)) (mk x q2)) ?_
      refine mS_steps (pc' := 42) (ls' := [.ref 279, .int p1, .int p2, .int p3, .int p4, .int q1.1]) (st' := [.int (f_X11_in p3 (0 : Int32) ((q2.1 279 46) - (1 : Int32)))]) (mem' := (mk x q2)) 0 rfl ?_
      refine mS_if1 rfl (fun _ => ?_) (fun _ => ?_)
      · refine mS_steps (pc' := 46) (ls' := [.ref 279, .int p1, .int p2, .int p3, .int p4, .int q1.1]) (st' := [.int (-1 : Int32)]) (mem' := (mk x q2)) 1 rfl ?_
        exact mS_reti ⟨_, _, _, _, _, rfl, rfl⟩ rfl
      · refine mS_steps (pc' := 50) (ls' := [.ref 279, .int p1, .int p2, .int p3, .int p4, .int q1.1]) (st' := [.int (-1 : Int32), .int p4]) (mem' := (mk x q2)) 2 rfl ?_
        refine mS_ic1 rfl (fun _ => ?_) (fun _ => ?_)
        · refine mS_steps (pc' := 58) (ls' := [.ref 279, .int p1, .int p2, .int p3, .int p4, .int q1.1]) (st' := [.int p3, .ref 306]) (mem' := (mk x q2)) 3 rfl ?_
          refine mS_ald (b := 0) (n := 16) (z := (q2.1 306 p3.toNatClampNeg)) rfl (by decide) rfl (by decide) rfl (fun _ => ?_)
          refine mS_steps (pc' := 95) (ls' := [.ref 279, .int p1, .int p2, .int p3, .int p4, .int q1.1]) (st' := [.int (q2.1 306 p3.toNatClampNeg)]) (mem' := (mk x q2)) 1 rfl ?_
          exact mS_reti ⟨_, _, _, _, _, rfl, rfl⟩ rfl
        · refine mS_steps (pc' := 70) (ls' := [.ref 279, .int p1, .int p2, .int p3, .int p4, .int q1.1]) (st' := [.int p3, .ref 306, .int (0 : Int32), .int p4]) (mem' := (mk x q2)) 5 rfl ?_
          refine mS_ald (b := 0) (n := 16) (z := (q2.1 306 p3.toNatClampNeg)) rfl (by decide) rfl (by decide) rfl (fun _ => ?_)
          refine mS_steps (pc' := 73) (ls' := [.ref 279, .int p1, .int p2, .int p3, .int p4, .int q1.1]) (st' := [.int ((q2.1 306 p3.toNatClampNeg) - (1 : Int32)), .int (0 : Int32), .int p4]) (mem' := (mk x q2)) 2 rfl ?_
          refine mS_call (q := (f_X11_in p4 (0 : Int32) ((q2.1 306 p3.toNatClampNeg) - (1 : Int32)))) 83 3 [.int p4, .int (0 : Int32), .int ((q2.1 306 p3.toNatClampNeg) - (1 : Int32))] [] rfl rfl rfl ⟨_, _, _, rfl, rfl⟩ (Nat.le_of_ble_eq_true rfl) (Nat.le_of_ble_eq_true rfl) rfl (f_X11_in_snd p4 (0 : Int32) ((q2.1 306 p3.toNatClampNeg) - (1 : Int32)) (mk x q2)) ?_
          refine mS_steps (pc' := 76) (ls' := [.ref 279, .int p1, .int p2, .int p3, .int p4, .int q1.1]) (st' := [.int (f_X11_in p4 (0 : Int32) ((q2.1 306 p3.toNatClampNeg) - (1 : Int32)))]) (mem' := (mk x q2)) 0 rfl ?_
          refine mS_if0 rfl (fun _ => ?_) (fun _ => ?_)
          · refine mS_steps (pc' := 95) (ls' := [.ref 279, .int p1, .int p2, .int p3, .int p4, .int q1.1]) (st' := [.int (-1 : Int32)]) (mem' := (mk x q2)) 1 rfl ?_
            exact mS_reti ⟨_, _, _, _, _, rfl, rfl⟩ rfl
          · refine mS_steps (pc' := 90) (ls' := [.ref 279, .int p1, .int p2, .int p3, .int p4, .int q1.1]) (st' := [.int (((10 : Int32) * p3) + p4), .ref 305]) (mem' := (mk x q2)) 7 rfl ?_
            refine mS_ald (b := 0) (n := 160) (z := (q2.1 305 (((10 : Int32) * p3) + p4).toNatClampNeg)) rfl (by decide) rfl (by decide) rfl (fun _ => ?_)
            refine mS_steps (pc' := 95) (ls' := [.ref 279, .int p1, .int p2, .int p3, .int p4, .int q1.1]) (st' := [.int (q2.1 305 (((10 : Int32) * p3) + p4).toNatClampNeg)]) (mem' := (mk x q2)) 1 rfl ?_
            exact mS_reti ⟨_, _, _, _, _, rfl, rfl⟩ rfl
  · refine mS_steps (pc' := 14) (ls' := [.ref 279, .int p1, .int p2, .int p3, .int p4, .int q1.1]) (st' := [.int (-1 : Int32)]) (mem' := (mk x q1.2)) 1 rfl ?_
    exact mS_reti ⟨_, _, _, _, _, rfl, rfl⟩ rfl
def f_X10_would (p1 : Int32) (p2 : Int32) (p3 : Int32) (x : mX) : Option (Int32 × mX) := ((f_X10_canGo p1 p2 x).bind fun q1 => (if q1.1 = 0 then (some ((-1 : Int32), q1.2)) else ((f_X6_live 14 q1.2).bind fun q2 => ((f_X8_run p1 p2 q2 q1.2).bind fun q3 => (if p3 = (0 : Int32) then (if (q3.1 251 0) = 0 then (some ((0 : Int32), q3)) else (some ((1 : Int32), q3))) else (if p3 = (1 : Int32) then (some ((q3.1 251 1), q3)) else (if p3 = (2 : Int32) then (some ((q3.1 251 2), q3)) else (if p3 = (3 : Int32) then (some ((q3.1 251 3), q3)) else (some ((-1 : Int32), q3))))))))))
set_option maxRecDepth 20000 in
set_option maxHeartbeats 2000000 in
theorem f_X10_would_snd {fm : Value} {L : Nat} {xs : Nat → Int32} (p1 : Int32) (p2 : Int32) (p3 : Int32) (x : mX) (y : mY) : mS fm L xs (fun r : (Int32 × mX) => (.int r.1, mk r.2 y)) pg_X10_would 0 (m_entry [.ref 0, .int p1, .int p2, .int p3] 4) [] (mk x y) ((f_X10_would p1 p2 p3 x)) := by
  unfold f_X10_would
  refine mS_steps (pc' := 0) (ls' := [.ref 0, .int p1, .int p2, .int p3]) (st' := []) (mem' := (mk x y)) 0 rfl ?_
  refine mS_steps (pc' := 3) (ls' := [.ref 0, .int p1, .int p2, .int p3]) (st' := [.int p2, .int p1, .ref 0]) (mem' := (mk x y)) 3 rfl ?_
  refine mS_bind (fun q1 hq1 => mS_call 135 3 [.ref 0, .int p1, .int p2] [] rfl rfl rfl ⟨_, _, _, rfl, rfl⟩ (Nat.le_of_ble_eq_true rfl) (Nat.le_of_ble_eq_true rfl) hq1 (f_X10_canGo_snd p1 p2 x y) ?_)
  refine mS_steps (pc' := 6) (ls' := [.ref 0, .int p1, .int p2, .int p3]) (st' := [.int q1.1]) (mem' := (mk q1.2 y)) 0 rfl ?_
  refine mS_if1 rfl (fun _ => ?_) (fun _ => ?_)
  · refine mS_steps (pc' := 10) (ls' := [.ref 0, .int p1, .int p2, .int p3]) (st' := [.int (-1 : Int32)]) (mem' := (mk q1.2 y)) 1 rfl ?_
    exact mS_reti ⟨_, _, _, _, _, rfl, rfl⟩ rfl
  · refine mS_steps (pc' := 25) (ls' := [.ref 0, .int p1, .int p2, .int p3]) (st' := [.ref 14, .int p2, .int p1, .ref 234, .ref 251]) (mem' := (mk q1.2 y)) 8 rfl ?_
    refine mS_bind (fun q2 hq2 => mS_call 61 1 [.ref 14] [.int p2, .int p1, .ref 234, .ref 251] rfl rfl rfl ⟨_, _, _, rfl, rfl⟩ (Nat.le_of_ble_eq_true rfl) (Nat.le_of_ble_eq_true rfl) hq2 (f_X6_live_14_snd  q1.2 y) ?_)
    refine mS_steps (pc' := 28) (ls' := [.ref 0, .int p1, .int p2, .int p3]) (st' := [.int q2, .int p2, .int p1, .ref 234, .ref 251]) (mem' := (mk q1.2 y)) 0 rfl ?_
    refine mS_bind (fun q3 hq3 => mS_call 138 5 [.ref 251, .ref 234, .int p1, .int p2, .int q2] [] rfl rfl rfl ⟨_, _, _, rfl, rfl⟩ (Nat.le_of_ble_eq_true rfl) (Nat.le_of_ble_eq_true rfl) hq3 (f_X8_run_snd p1 p2 q2 q1.2 y) ?_)
    refine mS_steps (pc' := 32) (ls' := [.ref 0, .int p1, .int p2, .int p3]) (st' := [.int p3]) (mem' := (mk q3 y)) 1 rfl ?_
    refine mS_ite (fun hc => ?_) (fun hn4 => ?_)
    · refine mS_tsw (i := 0) (t := 64) rfl (by rw [hc]; decide) rfl ?_
      refine mS_steps (pc' := 71) (ls' := [.ref 0, .int p1, .int p2, .int p3]) (st' := [.int (q3.1 251 0)]) (mem' := (mk q3 y)) 3 rfl ?_
      refine mS_if0 rfl (fun _ => ?_) (fun _ => ?_)
      · refine mS_steps (pc' := 79) (ls' := [.ref 0, .int p1, .int p2, .int p3]) (st' := [.int (0 : Int32)]) (mem' := (mk q3 y)) 1 rfl ?_
        exact mS_reti ⟨_, _, _, _, _, rfl, rfl⟩ rfl
      · refine mS_steps (pc' := 79) (ls' := [.ref 0, .int p1, .int p2, .int p3]) (st' := [.int (1 : Int32)]) (mem' := (mk q3 y)) 2 rfl ?_
        exact mS_reti ⟨_, _, _, _, _, rfl, rfl⟩ rfl
    refine mS_ite (fun hc => ?_) (fun hn5 => ?_)
    · refine mS_tsw (i := 1) (t := 80) rfl (by rw [hc]; decide) rfl ?_
      refine mS_steps (pc' := 87) (ls' := [.ref 0, .int p1, .int p2, .int p3]) (st' := [.int (q3.1 251 1)]) (mem' := (mk q3 y)) 3 rfl ?_
      exact mS_reti ⟨_, _, _, _, _, rfl, rfl⟩ rfl
    refine mS_ite (fun hc => ?_) (fun hn6 => ?_)
    · refine mS_tsw (i := 2) (t := 88) rfl (by rw [hc]; decide) rfl ?_
      refine mS_steps (pc' := 95) (ls' := [.ref 0, .int p1, .int p2, .int p3]) (st' := [.int (q3.1 251 2)]) (mem' := (mk q3 y)) 3 rfl ?_
      exact mS_reti ⟨_, _, _, _, _, rfl, rfl⟩ rfl
    refine mS_ite (fun hc => ?_) (fun hn7 => ?_)
    · refine mS_tsw (i := 3) (t := 96) rfl (by rw [hc]; decide) rfl ?_
      refine mS_steps (pc' := 103) (ls' := [.ref 0, .int p1, .int p2, .int p3]) (st' := [.int (q3.1 251 3)]) (mem' := (mk q3 y)) 3 rfl ?_
      exact mS_reti ⟨_, _, _, _, _, rfl, rfl⟩ rfl
    refine mS_tswd rfl (fun i hi => ?_) ?_
    · match i, hi with
      | 0, _ => exact Or.inl (m_nlit hn4 (by decide))
      | 1, _ => exact Or.inl (m_nlit hn5 (by decide))
      | 2, _ => exact Or.inl (m_nlit hn6 (by decide))
      | 3, _ => exact Or.inl (m_nlit hn7 (by decide))
      | n + 4, hi => exact absurd hi (by simp)
    refine mS_steps (pc' := 105) (ls' := [.ref 0, .int p1, .int p2, .int p3]) (st' := [.int (-1 : Int32)]) (mem' := (mk q3 y)) 1 rfl ?_
    exact mS_reti ⟨_, _, _, _, _, rfl, rfl⟩ rfl
def f_X11_would (p1 : Int32) (p2 : Int32) (p3 : Int32) (y : mY) : Option (Int32 × mY) := ((f_X11_canSend p1 p2 y).bind fun q1 => (if q1 = 0 then (some ((-1 : Int32), y)) else (if (f_X11_in p3 (0 : Int32) (3 : Int32)) = 0 then (some ((-1 : Int32), y)) else ((f_X11_goes p1 p2 (0 : Int32) y).bind fun q2 => (if p3 = 0 then (if q2.1 = 0 then (some ((0 : Int32), q2.2)) else (some ((1 : Int32), q2.2))) else (if p3 = (1 : Int32) then (some ((q2.2.1 279 54), q2.2)) else (if p3 = (2 : Int32) then (some ((q2.2.1 279 55), q2.2)) else (some ((q2.2.1 279 56), q2.2)))))))))
set_option maxRecDepth 20000 in
set_option maxHeartbeats 2000000 in
theorem f_X11_would_snd {fm : Value} {L : Nat} {xs : Nat → Int32} (p1 : Int32) (p2 : Int32) (p3 : Int32) (y : mY) (x : mX) : mS fm L xs (fun r : (Int32 × mY) => (.int r.1, mk x r.2)) pg_X11_would 0 (m_entry [.ref 279, .int p1, .int p2, .int p3] 5) [] (mk x y) ((f_X11_would p1 p2 p3 y)) := by
  unfold f_X11_would
  refine mS_steps (pc' := 0) (ls' := [.ref 279, .int p1, .int p2, .int p3, mU]) (st' := []) (mem' := (mk x y)) 0 rfl ?_
  refine mS_steps (pc' := 3) (ls' := [.ref 279, .int p1, .int p2, .int p3, mU]) (st' := [.int p2, .int p1, .ref 279]) (mem' := (mk x y)) 3 rfl ?_
  refine mS_bind (fun q1 hq1 => mS_call 141 3 [.ref 279, .int p1, .int p2] [] rfl rfl rfl ⟨_, _, _, rfl, rfl⟩ (Nat.le_of_ble_eq_true rfl) (Nat.le_of_ble_eq_true rfl) hq1 (f_X11_canSend_snd p1 p2 y x) ?_)
  refine mS_steps (pc' := 6) (ls' := [.ref 279, .int p1, .int p2, .int p3, mU]) (st' := [.int q1]) (mem' := (mk x y)) 0 rfl ?_
  refine mS_if0 rfl (fun _ => ?_) (fun _ => ?_)
  · refine mS_steps (pc' := 19) (ls' := [.ref 279, .int p1, .int p2, .int p3, mU]) (st' := [.int (-1 : Int32)]) (mem' := (mk x y)) 1 rfl ?_
    exact mS_reti ⟨_, _, _, _, _, rfl, rfl⟩ rfl
  · refine mS_steps (pc' := 12) (ls' := [.ref 279, .int p1, .int p2, .int p3, mU]) (st' := [.int (3 : Int32), .int (0 : Int32), .int p3]) (mem' := (mk x y)) 3 rfl ?_
    refine mS_call (q := (f_X11_in p3 (0 : Int32) (3 : Int32))) 83 3 [.int p3, .int (0 : Int32), .int (3 : Int32)] [] rfl rfl rfl ⟨_, _, _, rfl, rfl⟩ (Nat.le_of_ble_eq_true rfl) (Nat.le_of_ble_eq_true rfl) rfl (f_X11_in_snd p3 (0 : Int32) (3 : Int32) (mk x y)) ?_
    refine mS_steps (pc' := 15) (ls' := [.ref 279, .int p1, .int p2, .int p3, mU]) (st' := [.int (f_X11_in p3 (0 : Int32) (3 : Int32))]) (mem' := (mk x y)) 0 rfl ?_
    refine mS_if1 rfl (fun _ => ?_) (fun _ => ?_)
    · refine mS_steps (pc' := 19) (ls' := [.ref 279, .int p1, .int p2, .int p3, mU]) (st' := [.int (-1 : Int32)]) (mem' := (mk x y)) 1 rfl ?_
      exact mS_reti ⟨_, _, _, _, _, rfl, rfl⟩ rfl
    · refine mS_steps (pc' := 24) (ls' := [.ref 279, .int p1, .int p2, .int p3, mU]) (st' := [.int (0 : Int32), .int p2, .int p1, .ref 279]) (mem' := (mk x y)) 4 rfl ?_
      refine mS_bind (fun q2 hq2 => mS_call 159 4 [.ref 279, .int p1, .int p2, .int (0 : Int32)] [] rfl rfl rfl ⟨_, _, _, rfl, rfl⟩ (Nat.le_of_ble_eq_true rfl) (Nat.le_of_ble_eq_true rfl) hq2 (f_X11_goes_snd p1 p2 (0 : Int32) y x) ?_)
      refine mS_steps (pc' := 30) (ls' := [.ref 279, .int p1, .int p2, .int p3, .int q2.1]) (st' := [.int p3]) (mem' := (mk x q2.2)) 2 rfl ?_
      refine mS_if1 rfl (fun _ => ?_) (fun _ => ?_)
      · refine mS_steps (pc' := 35) (ls' := [.ref 279, .int p1, .int p2, .int p3, .int q2.1]) (st' := [.int q2.1]) (mem' := (mk x q2.2)) 1 rfl ?_
        refine mS_if0 rfl (fun _ => ?_) (fun _ => ?_)
        · refine mS_steps (pc' := 74) (ls' := [.ref 279, .int p1, .int p2, .int p3, .int q2.1]) (st' := [.int (0 : Int32)]) (mem' := (mk x q2.2)) 2 rfl ?_
          exact mS_reti ⟨_, _, _, _, _, rfl, rfl⟩ rfl
        · refine mS_steps (pc' := 74) (ls' := [.ref 279, .int p1, .int p2, .int p3, .int q2.1]) (st' := [.int (1 : Int32)]) (mem' := (mk x q2.2)) 2 rfl ?_
          exact mS_reti ⟨_, _, _, _, _, rfl, rfl⟩ rfl
      · refine mS_steps (pc' := 48) (ls' := [.ref 279, .int p1, .int p2, .int p3, .int q2.1]) (st' := [.int (1 : Int32), .int p3]) (mem' := (mk x q2.2)) 2 rfl ?_
        refine mS_ic1 rfl (fun _ => ?_) (fun _ => ?_)
        · refine mS_steps (pc' := 74) (ls' := [.ref 279, .int p1, .int p2, .int p3, .int q2.1]) (st' := [.int (q2.2.1 279 54)]) (mem' := (mk x q2.2)) 3 rfl ?_
          exact mS_reti ⟨_, _, _, _, _, rfl, rfl⟩ rfl
        · refine mS_steps (pc' := 60) (ls' := [.ref 279, .int p1, .int p2, .int p3, .int q2.1]) (st' := [.int (2 : Int32), .int p3]) (mem' := (mk x q2.2)) 2 rfl ?_
          refine mS_ic1 rfl (fun _ => ?_) (fun _ => ?_)
          · refine mS_steps (pc' := 74) (ls' := [.ref 279, .int p1, .int p2, .int p3, .int q2.1]) (st' := [.int (q2.2.1 279 55)]) (mem' := (mk x q2.2)) 3 rfl ?_
            exact mS_reti ⟨_, _, _, _, _, rfl, rfl⟩ rfl
          · refine mS_steps (pc' := 74) (ls' := [.ref 279, .int p1, .int p2, .int p3, .int q2.1]) (st' := [.int (q2.2.1 279 56)]) (mem' := (mk x q2.2)) 2 rfl ?_
            exact mS_reti ⟨_, _, _, _, _, rfl, rfl⟩ rfl
def f_X10_comes (p1 : Int32) (p2 : Int32) (p3 : Int32) (x : mX) : Option (Int32 × mX) := ((f_X8_run p1 p2 p3 x).bind fun q1 => (if m_nr 1 (q1.1 251 0) = true then (some ((q1.1 251 0), q1)) else none))
set_option maxRecDepth 20000 in
set_option maxHeartbeats 2000000 in
theorem f_X10_comes_snd {fm : Value} {L : Nat} {xs : Nat → Int32} (p1 : Int32) (p2 : Int32) (p3 : Int32) (x : mX) (y : mY) : mS fm L xs (fun r : (Int32 × mX) => (.int r.1, mk r.2 y)) pg_X10_comes 0 (m_entry [.ref 0, .int p1, .int p2, .int p3] 4) [] (mk x y) ((f_X10_comes p1 p2 p3 x)) := by
  unfold f_X10_comes
  refine mS_steps (pc' := 0) (ls' := [.ref 0, .int p1, .int p2, .int p3]) (st' := []) (mem' := (mk x y)) 0 rfl ?_
  refine mS_steps (pc' := 11) (ls' := [.ref 0, .int p1, .int p2, .int p3]) (st' := [.int p3, .int p2, .int p1, .ref 234, .ref 251]) (mem' := (mk x y)) 7 rfl ?_
  refine mS_bind (fun q1 hq1 => mS_call 138 5 [.ref 251, .ref 234, .int p1, .int p2, .int p3] [] rfl rfl rfl ⟨_, _, _, rfl, rfl⟩ (Nat.le_of_ble_eq_true rfl) (Nat.le_of_ble_eq_true rfl) hq1 (f_X8_run_snd p1 p2 p3 x y) ?_)
  refine mS_steps (pc' := 21) (ls' := [.ref 0, .int p1, .int p2, .int p3]) (st' := [.int (q1.1 251 0)]) (mem' := (mk q1 y)) 3 rfl ?_
  refine mS_guard (fun hz => ?_)
  exact mS_reti ⟨_, _, _, _, _, rfl, hz⟩ rfl
def f_X10_loss_L25 (a1 : Int32) (a2 : Int32) (a3 : Int32) : Nat → Int32 → Int32 → mX → Option (Int32 × mX)
  | 0, _, _, _ => none
  | n + 1, a4, a5, x => (if (16 : Int32) ≤ a5 then (some (a4, x)) else (if (f_X10_has a3 a5) = 0 then (f_X10_loss_L25 a1 a2 a3 n a4 (a5 + (1 : Int32)) x) else ((f_X10_comes a1 a2 (a3 &&& (((1 : Int32) <<< (a5 &&& 31)) ^^^ (-1 : Int32))) x).bind fun q3 => (if q3.1 = 0 then (f_X10_loss_L25 a1 a2 a3 n (a4 ||| ((1 : Int32) <<< (a5 &&& 31))) (a5 + (1 : Int32)) q3.2) else (f_X10_loss_L25 a1 a2 a3 n a4 (a5 + (1 : Int32)) q3.2)))))
def f_X10_loss (p1 : Int32) (p2 : Int32) (x : mX) : Option (Int32 × mX) := ((f_X10_canGo p1 p2 x).bind fun q1 => (if q1.1 = 0 then (some ((-1 : Int32), q1.2)) else ((f_X6_live 14 q1.2).bind fun q2 => (f_X10_loss_L25 p1 p2 q2 mF (0 : Int32) (0 : Int32) q1.2))))
set_option maxRecDepth 20000 in
set_option maxHeartbeats 2000000 in
theorem f_X10_loss_L25_snd {fm : Value} {L : Nat} {xs : Nat → Int32} (a1 : Int32) (a2 : Int32) (a3 : Int32) (y : mY) : ∀ (n : Nat) (a4 : Int32) (a5 : Int32) (x : mX), mS fm L xs (fun r : (Int32 × mX) => (.int r.1, mk r.2 y)) pg_X10_loss 25 [.ref 0, .int a1, .int a2, .int a3, .int a4, .int a5] [] (mk x y) (f_X10_loss_L25 a1 a2 a3 n a4 a5 x) := by
  intro n
  induction n with
  | zero => intro a4 a5 x; exact mS_none
  | succ n ih =>
    intro a4 a5 x
    rw [f_X10_loss_L25]
    refine mS_steps (pc' := 29) (ls' := [.ref 0, .int a1, .int a2, .int a3, .int a4, .int a5]) (st' := [.int (16 : Int32), .int a5]) (mem' := (mk x y)) 2 rfl ?_
    refine mS_ic3 rfl (fun _ => ?_) (fun _ => ?_)
    · refine mS_steps (pc' := 75) (ls' := [.ref 0, .int a1, .int a2, .int a3, .int a4, .int a5]) (st' := [.int a4]) (mem' := (mk x y)) 1 rfl ?_
      exact mS_reti ⟨_, _, _, _, _, rfl, rfl⟩ rfl
    · refine mS_steps (pc' := 35) (ls' := [.ref 0, .int a1, .int a2, .int a3, .int a4, .int a5]) (st' := [.int a5, .int a3]) (mem' := (mk x y)) 2 rfl ?_
      refine mS_call (q := (f_X10_has a3 a5)) 57 2 [.int a3, .int a5] [] rfl rfl rfl ⟨_, _, _, rfl, rfl⟩ (Nat.le_of_ble_eq_true rfl) (Nat.le_of_ble_eq_true rfl) rfl (f_X10_has_snd a3 a5 (mk x y)) ?_
      refine mS_steps (pc' := 38) (ls' := [.ref 0, .int a1, .int a2, .int a3, .int a4, .int a5]) (st' := [.int (f_X10_has a3 a5)]) (mem' := (mk x y)) 0 rfl ?_
      refine mS_if0 rfl (fun _ => ?_) (fun _ => ?_)
      · refine mS_steps (pc' := 25) (ls' := [.ref 0, .int a1, .int a2, .int a3, .int a4, .int (a5 + (1 : Int32))]) (st' := []) (mem' := (mk x y)) 2 rfl ?_
        exact ih a4 (a5 + (1 : Int32)) x
      · refine mS_steps (pc' := 52) (ls' := [.ref 0, .int a1, .int a2, .int a3, .int a4, .int a5]) (st' := [.int (a3 &&& (((1 : Int32) <<< (a5 &&& 31)) ^^^ (-1 : Int32))), .int a2, .int a1, .ref 0]) (mem' := (mk x y)) 10 rfl ?_
        refine mS_bind (fun q3 hq3 => mS_call 232 4 [.ref 0, .int a1, .int a2, .int (a3 &&& (((1 : Int32) <<< (a5 &&& 31)) ^^^ (-1 : Int32)))] [] rfl rfl rfl ⟨_, _, _, rfl, rfl⟩ (Nat.le_of_ble_eq_true rfl) (Nat.le_of_ble_eq_true rfl) hq3 (f_X10_comes_snd a1 a2 (a3 &&& (((1 : Int32) <<< (a5 &&& 31)) ^^^ (-1 : Int32))) x y) ?_)
        refine mS_steps (pc' := 55) (ls' := [.ref 0, .int a1, .int a2, .int a3, .int a4, .int a5]) (st' := [.int q3.1]) (mem' := (mk q3.2 y)) 0 rfl ?_
        refine mS_if1 rfl (fun _ => ?_) (fun _ => ?_)
        · refine mS_steps (pc' := 25) (ls' := [.ref 0, .int a1, .int a2, .int a3, .int (a4 ||| ((1 : Int32) <<< (a5 &&& 31))), .int (a5 + (1 : Int32))]) (st' := []) (mem' := (mk q3.2 y)) 8 rfl ?_
          exact ih (a4 ||| ((1 : Int32) <<< (a5 &&& 31))) (a5 + (1 : Int32)) q3.2
        · refine mS_steps (pc' := 25) (ls' := [.ref 0, .int a1, .int a2, .int a3, .int a4, .int (a5 + (1 : Int32))]) (st' := []) (mem' := (mk q3.2 y)) 2 rfl ?_
          exact ih a4 (a5 + (1 : Int32)) q3.2
set_option maxRecDepth 20000 in
set_option maxHeartbeats 2000000 in
theorem f_X10_loss_snd {fm : Value} {L : Nat} {xs : Nat → Int32} (p1 : Int32) (p2 : Int32) (x : mX) (y : mY) : mS fm L xs (fun r : (Int32 × mX) => (.int r.1, mk r.2 y)) pg_X10_loss 0 (m_entry [.ref 0, .int p1, .int p2] 6) [] (mk x y) ((f_X10_loss p1 p2 x)) := by
  unfold f_X10_loss
  refine mS_steps (pc' := 0) (ls' := [.ref 0, .int p1, .int p2, mU, mU, mU]) (st' := []) (mem' := (mk x y)) 0 rfl ?_
  refine mS_steps (pc' := 3) (ls' := [.ref 0, .int p1, .int p2, mU, mU, mU]) (st' := [.int p2, .int p1, .ref 0]) (mem' := (mk x y)) 3 rfl ?_
  refine mS_bind (fun q1 hq1 => mS_call 135 3 [.ref 0, .int p1, .int p2] [] rfl rfl rfl ⟨_, _, _, rfl, rfl⟩ (Nat.le_of_ble_eq_true rfl) (Nat.le_of_ble_eq_true rfl) hq1 (f_X10_canGo_snd p1 p2 x y) ?_)
  refine mS_steps (pc' := 6) (ls' := [.ref 0, .int p1, .int p2, mU, mU, mU]) (st' := [.int q1.1]) (mem' := (mk q1.2 y)) 0 rfl ?_
  refine mS_if1 rfl (fun _ => ?_) (fun _ => ?_)
  · refine mS_steps (pc' := 10) (ls' := [.ref 0, .int p1, .int p2, mU, mU, mU]) (st' := [.int (-1 : Int32)]) (mem' := (mk q1.2 y)) 1 rfl ?_
    exact mS_reti ⟨_, _, _, _, _, rfl, rfl⟩ rfl
  · refine mS_steps (pc' := 15) (ls' := [.ref 0, .int p1, .int p2, mU, mU, mU]) (st' := [.ref 14]) (mem' := (mk q1.2 y)) 2 rfl ?_
    refine mS_bind (fun q2 hq2 => mS_call 61 1 [.ref 14] [] rfl rfl rfl ⟨_, _, _, rfl, rfl⟩ (Nat.le_of_ble_eq_true rfl) (Nat.le_of_ble_eq_true rfl) hq2 (f_X6_live_14_snd  q1.2 y) ?_)
    refine mS_steps (pc' := 25) (ls' := [.ref 0, .int p1, .int p2, .int q2, .int (0 : Int32), .int (0 : Int32)]) (st' := []) (mem' := (mk q1.2 y)) 5 rfl ?_
    refine f_X10_loss_L25_snd p1 p2 q2 y mF (0 : Int32) (0 : Int32) q1.2
def f_X11_loss_L22 (a1 : Int32) (a2 : Int32) (a3 : Int32) : Nat → Int32 → Int32 → mY → Option (Int32 × mY)
  | 0, _, _, _ => none
  | n + 1, a4, a5, y => (if (y.1 289 4) ≤ a5 then (some (a4, y)) else (if (f_X11_has a3 a5) = 0 then (f_X11_loss_L22 a1 a2 a3 n a4 (a5 + (1 : Int32)) y) else ((f_X11_goes a1 a2 ((1 : Int32) <<< (a5 &&& 31)) y).bind fun q3 => (if q3.1 = 0 then (f_X11_loss_L22 a1 a2 a3 n (a4 ||| ((1 : Int32) <<< (a5 &&& 31))) (a5 + (1 : Int32)) q3.2) else (f_X11_loss_L22 a1 a2 a3 n a4 (a5 + (1 : Int32)) q3.2)))))
def f_X11_loss (p1 : Int32) (p2 : Int32) (y : mY) : Option (Int32 × mY) := ((f_X11_canSend p1 p2 y).bind fun q1 => (if q1 = 0 then (some ((-1 : Int32), y)) else ((f_X11_netLinks y).bind fun q2 => (f_X11_loss_L22 p1 p2 q2 mF (0 : Int32) (0 : Int32) y))))
set_option maxRecDepth 20000 in
set_option maxHeartbeats 2000000 in
theorem f_X11_loss_L22_snd {fm : Value} {L : Nat} {xs : Nat → Int32} (a1 : Int32) (a2 : Int32) (a3 : Int32) (x : mX) : ∀ (n : Nat) (a4 : Int32) (a5 : Int32) (y : mY), mS fm L xs (fun r : (Int32 × mY) => (.int r.1, mk x r.2)) pg_X11_loss 22 [.ref 279, .int a1, .int a2, .int a3, .int a4, .int a5] [] (mk x y) (f_X11_loss_L22 a1 a2 a3 n a4 a5 y) := by
  intro n
  induction n with
  | zero => intro a4 a5 y; exact mS_none
  | succ n ih =>
    intro a4 a5 y
    rw [f_X11_loss_L22]
    refine mS_steps (pc' := 29) (ls' := [.ref 279, .int a1, .int a2, .int a3, .int a4, .int a5]) (st' := [.int (4 : Int32), .ref 289, .int a5]) (mem' := (mk x y)) 4 rfl ?_
    refine mS_aldc (b := 0) (n := 72) (c := 4) (z := (y.1 289 4)) rfl (by decide) rfl (by decide) (by decide) (by decide) rfl ?_
    refine mS_ic3 rfl (fun _ => ?_) (fun _ => ?_)
    · refine mS_steps (pc' := 72) (ls' := [.ref 279, .int a1, .int a2, .int a3, .int a4, .int a5]) (st' := [.int a4]) (mem' := (mk x y)) 1 rfl ?_
      exact mS_reti ⟨_, _, _, _, _, rfl, rfl⟩ rfl
    · refine mS_steps (pc' := 36) (ls' := [.ref 279, .int a1, .int a2, .int a3, .int a4, .int a5]) (st' := [.int a5, .int a3]) (mem' := (mk x y)) 2 rfl ?_
      refine mS_call (q := (f_X11_has a3 a5)) 87 2 [.int a3, .int a5] [] rfl rfl rfl ⟨_, _, _, rfl, rfl⟩ (Nat.le_of_ble_eq_true rfl) (Nat.le_of_ble_eq_true rfl) rfl (f_X11_has_snd a3 a5 (mk x y)) ?_
      refine mS_steps (pc' := 39) (ls' := [.ref 279, .int a1, .int a2, .int a3, .int a4, .int a5]) (st' := [.int (f_X11_has a3 a5)]) (mem' := (mk x y)) 0 rfl ?_
      refine mS_if0 rfl (fun _ => ?_) (fun _ => ?_)
      · refine mS_steps (pc' := 22) (ls' := [.ref 279, .int a1, .int a2, .int a3, .int a4, .int (a5 + (1 : Int32))]) (st' := []) (mem' := (mk x y)) 2 rfl ?_
        exact ih a4 (a5 + (1 : Int32)) y
      · refine mS_steps (pc' := 49) (ls' := [.ref 279, .int a1, .int a2, .int a3, .int a4, .int a5]) (st' := [.int ((1 : Int32) <<< (a5 &&& 31)), .int a2, .int a1, .ref 279]) (mem' := (mk x y)) 6 rfl ?_
        refine mS_bind (fun q3 hq3 => mS_call 159 4 [.ref 279, .int a1, .int a2, .int ((1 : Int32) <<< (a5 &&& 31))] [] rfl rfl rfl ⟨_, _, _, rfl, rfl⟩ (Nat.le_of_ble_eq_true rfl) (Nat.le_of_ble_eq_true rfl) hq3 (f_X11_goes_snd a1 a2 ((1 : Int32) <<< (a5 &&& 31)) y x) ?_)
        refine mS_steps (pc' := 52) (ls' := [.ref 279, .int a1, .int a2, .int a3, .int a4, .int a5]) (st' := [.int q3.1]) (mem' := (mk x q3.2)) 0 rfl ?_
        refine mS_if1 rfl (fun _ => ?_) (fun _ => ?_)
        · refine mS_steps (pc' := 22) (ls' := [.ref 279, .int a1, .int a2, .int a3, .int (a4 ||| ((1 : Int32) <<< (a5 &&& 31))), .int (a5 + (1 : Int32))]) (st' := []) (mem' := (mk x q3.2)) 8 rfl ?_
          exact ih (a4 ||| ((1 : Int32) <<< (a5 &&& 31))) (a5 + (1 : Int32)) q3.2
        · refine mS_steps (pc' := 22) (ls' := [.ref 279, .int a1, .int a2, .int a3, .int a4, .int (a5 + (1 : Int32))]) (st' := []) (mem' := (mk x q3.2)) 2 rfl ?_
          exact ih a4 (a5 + (1 : Int32)) q3.2
set_option maxRecDepth 20000 in
set_option maxHeartbeats 2000000 in
theorem f_X11_loss_snd {fm : Value} {L : Nat} {xs : Nat → Int32} (p1 : Int32) (p2 : Int32) (y : mY) (x : mX) : mS fm L xs (fun r : (Int32 × mY) => (.int r.1, mk x r.2)) pg_X11_loss 0 (m_entry [.ref 279, .int p1, .int p2] 6) [] (mk x y) ((f_X11_loss p1 p2 y)) := by
  unfold f_X11_loss
  refine mS_steps (pc' := 0) (ls' := [.ref 279, .int p1, .int p2, mU, mU, mU]) (st' := []) (mem' := (mk x y)) 0 rfl ?_
  refine mS_steps (pc' := 3) (ls' := [.ref 279, .int p1, .int p2, mU, mU, mU]) (st' := [.int p2, .int p1, .ref 279]) (mem' := (mk x y)) 3 rfl ?_
  refine mS_bind (fun q1 hq1 => mS_call 141 3 [.ref 279, .int p1, .int p2] [] rfl rfl rfl ⟨_, _, _, rfl, rfl⟩ (Nat.le_of_ble_eq_true rfl) (Nat.le_of_ble_eq_true rfl) hq1 (f_X11_canSend_snd p1 p2 y x) ?_)
  refine mS_steps (pc' := 6) (ls' := [.ref 279, .int p1, .int p2, mU, mU, mU]) (st' := [.int q1]) (mem' := (mk x y)) 0 rfl ?_
  refine mS_if1 rfl (fun _ => ?_) (fun _ => ?_)
  · refine mS_steps (pc' := 10) (ls' := [.ref 279, .int p1, .int p2, mU, mU, mU]) (st' := [.int (-1 : Int32)]) (mem' := (mk x y)) 1 rfl ?_
    exact mS_reti ⟨_, _, _, _, _, rfl, rfl⟩ rfl
  · refine mS_steps (pc' := 12) (ls' := [.ref 279, .int p1, .int p2, mU, mU, mU]) (st' := [.ref 279]) (mem' := (mk x y)) 1 rfl ?_
    refine mS_bind (fun q2 hq2 => mS_call 89 1 [.ref 279] [] rfl rfl rfl ⟨_, _, _, rfl, rfl⟩ (Nat.le_of_ble_eq_true rfl) (Nat.le_of_ble_eq_true rfl) hq2 (f_X11_netLinks_snd  y x) ?_)
    refine mS_steps (pc' := 22) (ls' := [.ref 279, .int p1, .int p2, .int q2, .int (0 : Int32), .int (0 : Int32)]) (st' := []) (mem' := (mk x y)) 5 rfl ?_
    refine f_X11_loss_L22_snd p1 p2 q2 x mF (0 : Int32) (0 : Int32) y
def f_X6_joined_L27 (a3 : Int32) : Nat → Int32 → Int32 → mX → (Int32 → Option Int32) → Option Int32
  | 0, _, _, _, _ => none
  | n + 1, a4, a6, x, k94 => (if (16 : Int32) ≤ a6 then (k94 a4) else (if m_in a6 16 = true then (if m_in a6 16 = true then (if (x.1 14 1) ≤ a6 then (f_X6_joined_L27 a3 n a4 (a6 + (1 : Int32)) x k94) else (if (f_X10_has a3 a6) = 0 then (f_X6_joined_L27 a3 n a4 (a6 + (1 : Int32)) x k94) else (if (a4 &&& (((1 : Int32) <<< ((x.1 15 a6.toNatClampNeg) &&& 31)) ||| ((1 : Int32) <<< ((x.1 16 a6.toNatClampNeg) &&& 31)))) = 0 then (f_X6_joined_L27 a3 n a4 (a6 + (1 : Int32)) x k94) else (f_X6_joined_L27 a3 n (a4 ||| (((1 : Int32) <<< ((x.1 15 a6.toNatClampNeg) &&& 31)) ||| ((1 : Int32) <<< ((x.1 16 a6.toNatClampNeg) &&& 31)))) (a6 + (1 : Int32)) x k94)))) else none) else none))
def f_X6_joined_L8 (a2 : Int32) (a3 : Int32) : Nat → Int32 → Int32 → mX → Option Int32
  | 0, _, _, _ => none
  | n + 1, a4, a5, x => (if (8 : Int32) ≤ a5 then (if m_nr 1 (f_X10_has a4 a2) = true then (some (f_X10_has a4 a2)) else none) else (if (f_X10_has a4 a2) = 0 then (f_X6_joined_L27 a3 mF a4 (0 : Int32) x (fun v1 => (f_X6_joined_L8 a2 a3 n v1 (a5 + (1 : Int32)) x))) else (if m_nr 1 (f_X10_has a4 a2) = true then (some (f_X10_has a4 a2)) else none)))
def f_X6_joined (p1 : Int32) (p2 : Int32) (p3 : Int32) (x : mX) : Option Int32 := (f_X6_joined_L8 p2 p3 mF ((1 : Int32) <<< (p1 &&& 31)) (0 : Int32) x)
set_option maxRecDepth 20000 in
set_option maxHeartbeats 2000000 in
theorem f_X6_joined_L27_snd {fm : Value} {L : Nat} {xs : Nat → Int32} (a2 : Int32) (a3 : Int32) (a5 : Int32) (x : mX) (y : mY) (k94 : Int32 → Option Int32) (hk94 : ∀ (b4 : Int32), mS fm L xs (fun r : Int32 => (.int r, (mk x y))) pg_X6_joined 94 [.ref 14, mU, .int a2, .int a3, .int b4, .int a5, mU, mU] [] (mk x y) (k94 b4)) : ∀ (n : Nat) (a4 : Int32) (a6 : Int32), mS fm L xs (fun r : Int32 => (.int r, (mk x y))) pg_X6_joined 27 [.ref 14, mU, .int a2, .int a3, .int a4, .int a5, .int a6, mU] [] (mk x y) (f_X6_joined_L27 a3 n a4 a6 x k94) := by
  intro n
  induction n with
  | zero => intro a4 a6; exact mS_none
  | succ n ih =>
    intro a4 a6
    rw [f_X6_joined_L27]
    refine mS_steps (pc' := 31) (ls' := [.ref 14, mU, .int a2, .int a3, .int a4, .int a5, .int a6, mU]) (st' := [.int (16 : Int32), .int a6]) (mem' := (mk x y)) 2 rfl ?_
    refine mS_ic3 rfl (fun _ => ?_) (fun _ => ?_)
    · refine mS_forget [.ref 14, mU, .int a2, .int a3, .int a4, .int a5, mU, mU] ⟨Or.inr rfl, Or.inl rfl, Or.inr rfl, Or.inr rfl, Or.inr rfl, Or.inr rfl, Or.inl rfl, Or.inl rfl, trivial⟩ ?_
      exact hk94 a4
    · refine mS_steps (pc' := 41) (ls' := [.ref 14, mU, .int a2, .int a3, .int a4, .int a5, .int a6, mU]) (st' := [.int a6, .ref 15, .int (1 : Int32)]) (mem' := (mk x y)) 4 rfl ?_
      refine mS_ald (b := 0) (n := 16) (z := (x.1 15 a6.toNatClampNeg)) rfl (by decide) rfl (by decide) rfl (fun _ => ?_)
      refine mS_steps (pc' := 50) (ls' := [.ref 14, mU, .int a2, .int a3, .int a4, .int a5, .int a6, mU]) (st' := [.int a6, .ref 16, .int (1 : Int32), .int ((1 : Int32) <<< ((x.1 15 a6.toNatClampNeg) &&& 31))]) (mem' := (mk x y)) 5 rfl ?_
      refine mS_ald (b := 0) (n := 16) (z := (x.1 16 a6.toNatClampNeg)) rfl (by decide) rfl (by decide) rfl (fun _ => ?_)
      refine mS_steps (pc' := 61) (ls' := [.ref 14, mU, .int a2, .int a3, .int a4, .int a5, .int a6, .int (((1 : Int32) <<< ((x.1 15 a6.toNatClampNeg) &&& 31)) ||| ((1 : Int32) <<< ((x.1 16 a6.toNatClampNeg) &&& 31)))]) (st' := [.int (x.1 14 1), .int a6]) (mem' := (mk x y)) 6 rfl ?_
      refine mS_ic3 rfl (fun _ => ?_) (fun _ => ?_)
      · refine mS_steps (pc' := 27) (ls' := [.ref 14, mU, .int a2, .int a3, .int a4, .int a5, .int (a6 + (1 : Int32)), .int (((1 : Int32) <<< ((x.1 15 a6.toNatClampNeg) &&& 31)) ||| ((1 : Int32) <<< ((x.1 16 a6.toNatClampNeg) &&& 31)))]) (st' := []) (mem' := (mk x y)) 2 rfl ?_
        refine mS_forget [.ref 14, mU, .int a2, .int a3, .int a4, .int a5, .int (a6 + (1 : Int32)), mU] ⟨Or.inr rfl, Or.inl rfl, Or.inr rfl, Or.inr rfl, Or.inr rfl, Or.inr rfl, Or.inr rfl, Or.inl rfl, trivial⟩ ?_
        exact ih a4 (a6 + (1 : Int32))
      · refine mS_steps (pc' := 67) (ls' := [.ref 14, mU, .int a2, .int a3, .int a4, .int a5, .int a6, .int (((1 : Int32) <<< ((x.1 15 a6.toNatClampNeg) &&& 31)) ||| ((1 : Int32) <<< ((x.1 16 a6.toNatClampNeg) &&& 31)))]) (st' := [.int a6, .int a3]) (mem' := (mk x y)) 2 rfl ?_
        refine mS_call (q := (f_X10_has a3 a6)) 57 2 [.int a3, .int a6] [] rfl rfl rfl ⟨_, _, _, rfl, rfl⟩ (Nat.le_of_ble_eq_true rfl) (Nat.le_of_ble_eq_true rfl) rfl (f_X10_has_snd a3 a6 (mk x y)) ?_
        refine mS_steps (pc' := 70) (ls' := [.ref 14, mU, .int a2, .int a3, .int a4, .int a5, .int a6, .int (((1 : Int32) <<< ((x.1 15 a6.toNatClampNeg) &&& 31)) ||| ((1 : Int32) <<< ((x.1 16 a6.toNatClampNeg) &&& 31)))]) (st' := [.int (f_X10_has a3 a6)]) (mem' := (mk x y)) 0 rfl ?_
        refine mS_if0 rfl (fun _ => ?_) (fun _ => ?_)
        · refine mS_steps (pc' := 27) (ls' := [.ref 14, mU, .int a2, .int a3, .int a4, .int a5, .int (a6 + (1 : Int32)), .int (((1 : Int32) <<< ((x.1 15 a6.toNatClampNeg) &&& 31)) ||| ((1 : Int32) <<< ((x.1 16 a6.toNatClampNeg) &&& 31)))]) (st' := []) (mem' := (mk x y)) 2 rfl ?_
          refine mS_forget [.ref 14, mU, .int a2, .int a3, .int a4, .int a5, .int (a6 + (1 : Int32)), mU] ⟨Or.inr rfl, Or.inl rfl, Or.inr rfl, Or.inr rfl, Or.inr rfl, Or.inr rfl, Or.inr rfl, Or.inl rfl, trivial⟩ ?_
          exact ih a4 (a6 + (1 : Int32))
        · refine mS_steps (pc' := 78) (ls' := [.ref 14, mU, .int a2, .int a3, .int a4, .int a5, .int a6, .int (((1 : Int32) <<< ((x.1 15 a6.toNatClampNeg) &&& 31)) ||| ((1 : Int32) <<< ((x.1 16 a6.toNatClampNeg) &&& 31)))]) (st' := [.int (a4 &&& (((1 : Int32) <<< ((x.1 15 a6.toNatClampNeg) &&& 31)) ||| ((1 : Int32) <<< ((x.1 16 a6.toNatClampNeg) &&& 31))))]) (mem' := (mk x y)) 3 rfl ?_
          refine mS_if0 rfl (fun _ => ?_) (fun _ => ?_)
          · refine mS_steps (pc' := 27) (ls' := [.ref 14, mU, .int a2, .int a3, .int a4, .int a5, .int (a6 + (1 : Int32)), .int (((1 : Int32) <<< ((x.1 15 a6.toNatClampNeg) &&& 31)) ||| ((1 : Int32) <<< ((x.1 16 a6.toNatClampNeg) &&& 31)))]) (st' := []) (mem' := (mk x y)) 2 rfl ?_
            refine mS_forget [.ref 14, mU, .int a2, .int a3, .int a4, .int a5, .int (a6 + (1 : Int32)), mU] ⟨Or.inr rfl, Or.inl rfl, Or.inr rfl, Or.inr rfl, Or.inr rfl, Or.inr rfl, Or.inr rfl, Or.inl rfl, trivial⟩ ?_
            exact ih a4 (a6 + (1 : Int32))
          · refine mS_steps (pc' := 27) (ls' := [.ref 14, mU, .int a2, .int a3, .int (a4 ||| (((1 : Int32) <<< ((x.1 15 a6.toNatClampNeg) &&& 31)) ||| ((1 : Int32) <<< ((x.1 16 a6.toNatClampNeg) &&& 31)))), .int a5, .int (a6 + (1 : Int32)), .int (((1 : Int32) <<< ((x.1 15 a6.toNatClampNeg) &&& 31)) ||| ((1 : Int32) <<< ((x.1 16 a6.toNatClampNeg) &&& 31)))]) (st' := []) (mem' := (mk x y)) 6 rfl ?_
            refine mS_forget [.ref 14, mU, .int a2, .int a3, .int (a4 ||| (((1 : Int32) <<< ((x.1 15 a6.toNatClampNeg) &&& 31)) ||| ((1 : Int32) <<< ((x.1 16 a6.toNatClampNeg) &&& 31)))), .int a5, .int (a6 + (1 : Int32)), mU] ⟨Or.inr rfl, Or.inl rfl, Or.inr rfl, Or.inr rfl, Or.inr rfl, Or.inr rfl, Or.inr rfl, Or.inl rfl, trivial⟩ ?_
            exact ih (a4 ||| (((1 : Int32) <<< ((x.1 15 a6.toNatClampNeg) &&& 31)) ||| ((1 : Int32) <<< ((x.1 16 a6.toNatClampNeg) &&& 31)))) (a6 + (1 : Int32))
set_option maxRecDepth 20000 in
set_option maxHeartbeats 2000000 in
theorem f_X6_joined_L8_snd {fm : Value} {L : Nat} {xs : Nat → Int32} (a2 : Int32) (a3 : Int32) (x : mX) (y : mY) : ∀ (n : Nat) (a4 : Int32) (a5 : Int32), mS fm L xs (fun r : Int32 => (.int r, (mk x y))) pg_X6_joined 8 [.ref 14, mU, .int a2, .int a3, .int a4, .int a5, mU, mU] [] (mk x y) (f_X6_joined_L8 a2 a3 n a4 a5 x) := by
  intro n
  induction n with
  | zero => intro a4 a5; exact mS_none
  | succ n ih =>
    intro a4 a5
    rw [f_X6_joined_L8]
    refine mS_steps (pc' := 12) (ls' := [.ref 14, mU, .int a2, .int a3, .int a4, .int a5, mU, mU]) (st' := [.int (8 : Int32), .int a5]) (mem' := (mk x y)) 2 rfl ?_
    refine mS_ic3 rfl (fun _ => ?_) (fun _ => ?_)
    · refine mS_steps (pc' := 103) (ls' := [.ref 14, mU, .int a2, .int a3, .int a4, .int a5, mU, mU]) (st' := [.int a2, .int a4]) (mem' := (mk x y)) 2 rfl ?_
      refine mS_call (q := (f_X10_has a4 a2)) 57 2 [.int a4, .int a2] [] rfl rfl rfl ⟨_, _, _, rfl, rfl⟩ (Nat.le_of_ble_eq_true rfl) (Nat.le_of_ble_eq_true rfl) rfl (f_X10_has_snd a4 a2 (mk x y)) ?_
      refine mS_steps (pc' := 106) (ls' := [.ref 14, mU, .int a2, .int a3, .int a4, .int a5, mU, mU]) (st' := [.int (f_X10_has a4 a2)]) (mem' := (mk x y)) 0 rfl ?_
      refine mS_guard (fun hz => ?_)
      exact mS_reti ⟨_, _, _, _, _, rfl, hz⟩ rfl
    · refine mS_steps (pc' := 18) (ls' := [.ref 14, mU, .int a2, .int a3, .int a4, .int a5, mU, mU]) (st' := [.int a2, .int a4]) (mem' := (mk x y)) 2 rfl ?_
      refine mS_call (q := (f_X10_has a4 a2)) 57 2 [.int a4, .int a2] [] rfl rfl rfl ⟨_, _, _, rfl, rfl⟩ (Nat.le_of_ble_eq_true rfl) (Nat.le_of_ble_eq_true rfl) rfl (f_X10_has_snd a4 a2 (mk x y)) ?_
      refine mS_steps (pc' := 21) (ls' := [.ref 14, mU, .int a2, .int a3, .int a4, .int a5, mU, mU]) (st' := [.int (f_X10_has a4 a2)]) (mem' := (mk x y)) 0 rfl ?_
      refine mS_if1 rfl (fun _ => ?_) (fun _ => ?_)
      · refine mS_steps (pc' := 27) (ls' := [.ref 14, mU, .int a2, .int a3, .int a4, .int a5, .int (0 : Int32), mU]) (st' := []) (mem' := (mk x y)) 2 rfl ?_
        refine f_X6_joined_L27_snd a2 a3 a5 x y _ ?_ mF a4 (0 : Int32)
        · intro v1
          refine mS_steps (pc' := 8) (ls' := [.ref 14, mU, .int a2, .int a3, .int v1, .int (a5 + (1 : Int32)), mU, mU]) (st' := []) (mem' := (mk x y)) 2 rfl ?_
          exact ih v1 (a5 + (1 : Int32))
      · refine mS_steps (pc' := 103) (ls' := [.ref 14, mU, .int a2, .int a3, .int a4, .int a5, mU, mU]) (st' := [.int a2, .int a4]) (mem' := (mk x y)) 2 rfl ?_
        refine mS_call (q := (f_X10_has a4 a2)) 57 2 [.int a4, .int a2] [] rfl rfl rfl ⟨_, _, _, rfl, rfl⟩ (Nat.le_of_ble_eq_true rfl) (Nat.le_of_ble_eq_true rfl) rfl (f_X10_has_snd a4 a2 (mk x y)) ?_
        refine mS_steps (pc' := 106) (ls' := [.ref 14, mU, .int a2, .int a3, .int a4, .int a5, mU, mU]) (st' := [.int (f_X10_has a4 a2)]) (mem' := (mk x y)) 0 rfl ?_
        refine mS_guard (fun hz => ?_)
        exact mS_reti ⟨_, _, _, _, _, rfl, hz⟩ rfl
set_option maxRecDepth 20000 in
set_option maxHeartbeats 2000000 in
theorem f_X6_joined_snd {fm : Value} {L : Nat} {xs : Nat → Int32} (p1 : Int32) (p2 : Int32) (p3 : Int32) (x : mX) (y : mY) : mS fm L xs (fun r : Int32 => (.int r, (mk x y))) pg_X6_joined 0 (m_entry [.ref 14, .int p1, .int p2, .int p3] 8) [] (mk x y) ((f_X6_joined p1 p2 p3 x)) := by
  unfold f_X6_joined
  refine mS_steps (pc' := 0) (ls' := [.ref 14, .int p1, .int p2, .int p3, mU, mU, mU, mU]) (st' := []) (mem' := (mk x y)) 0 rfl ?_
  refine mS_steps (pc' := 8) (ls' := [.ref 14, .int p1, .int p2, .int p3, .int ((1 : Int32) <<< (p1 &&& 31)), .int (0 : Int32), mU, mU]) (st' := []) (mem' := (mk x y)) 6 rfl ?_
  refine mS_forget [.ref 14, mU, .int p2, .int p3, .int ((1 : Int32) <<< (p1 &&& 31)), .int (0 : Int32), mU, mU] ⟨Or.inr rfl, Or.inl rfl, Or.inr rfl, Or.inr rfl, Or.inr rfl, Or.inr rfl, Or.inl rfl, Or.inl rfl, trivial⟩ ?_
  refine f_X6_joined_L8_snd p2 p3 x y mF ((1 : Int32) <<< (p1 &&& 31)) (0 : Int32)
def f_X10_weak_L38 (a1 : Int32) (a2 : Int32) (a3 : Int32) (a5 : Int32) : Nat → Int32 → Int32 → mX → (Int32 → mX → Option (Int32 × mX)) → Option (Int32 × mX)
  | 0, _, _, _, _ => none
  | n + 1, a4, a6, x, k124 => (if (16 : Int32) ≤ a6 then (k124 a4 x) else (m_jn (fun _ => (if (0 : Int32) = 0 then (f_X10_weak_L38 a1 a2 a3 a5 n a4 (a6 + (1 : Int32)) x k124) else ((f_X10_comes a1 a2 (a3 &&& ((((1 : Int32) <<< (a5 &&& 31)) ||| ((1 : Int32) <<< (a6 &&& 31))) ^^^ (-1 : Int32))) x).bind fun q4 => (if q4.1 = 0 then ((f_X6_joined a1 a2 (a3 &&& ((((1 : Int32) <<< (a5 &&& 31)) ||| ((1 : Int32) <<< (a6 &&& 31))) ^^^ (-1 : Int32))) q4.2).bind fun q5 => (if q5 = 0 then (f_X10_weak_L38 a1 a2 a3 a5 n a4 (a6 + (1 : Int32)) q4.2 k124) else (f_X10_weak_L38 a1 a2 a3 a5 n (a4 + (1 : Int32)) (a6 + (1 : Int32)) q4.2 k124))) else (f_X10_weak_L38 a1 a2 a3 a5 n a4 (a6 + (1 : Int32)) q4.2 k124))))) (fun j3 => if (f_X10_has a3 a5) = 0 then (j3 ()) else (if (f_X10_has a3 a6) = 0 then (j3 ()) else (if (1 : Int32) = 0 then (f_X10_weak_L38 a1 a2 a3 a5 n a4 (a6 + (1 : Int32)) x k124) else ((f_X10_comes a1 a2 (a3 &&& ((((1 : Int32) <<< (a5 &&& 31)) ||| ((1 : Int32) <<< (a6 &&& 31))) ^^^ (-1 : Int32))) x).bind fun q6 => (if q6.1 = 0 then ((f_X6_joined a1 a2 (a3 &&& ((((1 : Int32) <<< (a5 &&& 31)) ||| ((1 : Int32) <<< (a6 &&& 31))) ^^^ (-1 : Int32))) q6.2).bind fun q7 => (if q7 = 0 then (f_X10_weak_L38 a1 a2 a3 a5 n a4 (a6 + (1 : Int32)) q6.2 k124) else (f_X10_weak_L38 a1 a2 a3 a5 n (a4 + (1 : Int32)) (a6 + (1 : Int32)) q6.2 k124))) else (f_X10_weak_L38 a1 a2 a3 a5 n a4 (a6 + (1 : Int32)) q6.2 k124))))))))
def f_X10_weak_L25 (a1 : Int32) (a2 : Int32) (a3 : Int32) : Nat → Int32 → Int32 → mX → Option (Int32 × mX)
  | 0, _, _, _ => none
  | n + 1, a4, a5, x => (if (16 : Int32) ≤ a5 then (some (a4, x)) else (f_X10_weak_L38 a1 a2 a3 a5 mF a4 (a5 + (1 : Int32)) x (fun v8 x9 => (f_X10_weak_L25 a1 a2 a3 n v8 (a5 + (1 : Int32)) x9))))
def f_X10_weak (p1 : Int32) (p2 : Int32) (x : mX) : Option (Int32 × mX) := ((f_X10_canGo p1 p2 x).bind fun q1 => (if q1.1 = 0 then (some ((-1 : Int32), q1.2)) else ((f_X6_live 14 q1.2).bind fun q2 => (f_X10_weak_L25 p1 p2 q2 mF (0 : Int32) (0 : Int32) q1.2))))
set_option maxRecDepth 20000 in
set_option maxHeartbeats 2000000 in
theorem f_X10_weak_L38_snd {fm : Value} {L : Nat} {xs : Nat → Int32} (a1 : Int32) (a2 : Int32) (a3 : Int32) (a5 : Int32) (y : mY) (k124 : Int32 → mX → Option (Int32 × mX)) (hk124 : ∀ (b4 : Int32) (z0 : mX), mS fm L xs (fun r : (Int32 × mX) => (.int r.1, mk r.2 y)) pg_X10_weak 124 [.ref 0, .int a1, .int a2, .int a3, .int b4, .int a5, mU, mU, mU] [] (mk z0 y) (k124 b4 z0)) : ∀ (n : Nat) (a4 : Int32) (a6 : Int32) (x : mX), mS fm L xs (fun r : (Int32 × mX) => (.int r.1, mk r.2 y)) pg_X10_weak 38 [.ref 0, .int a1, .int a2, .int a3, .int a4, .int a5, .int a6, mU, mU] [] (mk x y) (f_X10_weak_L38 a1 a2 a3 a5 n a4 a6 x k124) := by
  intro n
  induction n with
  | zero => intro a4 a6 x; exact mS_none
  | succ n ih =>
    intro a4 a6 x
    rw [f_X10_weak_L38]
    refine mS_steps (pc' := 42) (ls' := [.ref 0, .int a1, .int a2, .int a3, .int a4, .int a5, .int a6, mU, mU]) (st' := [.int (16 : Int32), .int a6]) (mem' := (mk x y)) 2 rfl ?_
    refine mS_ic3 rfl (fun _ => ?_) (fun _ => ?_)
    · refine mS_forget [.ref 0, .int a1, .int a2, .int a3, .int a4, .int a5, mU, mU, mU] ⟨Or.inr rfl, Or.inr rfl, Or.inr rfl, Or.inr rfl, Or.inr rfl, Or.inr rfl, Or.inl rfl, Or.inl rfl, Or.inl rfl, trivial⟩ ?_
      exact hk124 a4 x
    · refine mS_steps (pc' := 63) (ls' := [.ref 0, .int a1, .int a2, .int a3, .int a4, .int a5, .int a6, .int (a3 &&& ((((1 : Int32) <<< (a5 &&& 31)) ||| ((1 : Int32) <<< (a6 &&& 31))) ^^^ (-1 : Int32))), mU]) (st' := [.int a5, .int a3]) (mem' := (mk x y)) 14 rfl ?_
      refine mS_call (q := (f_X10_has a3 a5)) 57 2 [.int a3, .int a5] [] rfl rfl rfl ⟨_, _, _, rfl, rfl⟩ (Nat.le_of_ble_eq_true rfl) (Nat.le_of_ble_eq_true rfl) rfl (f_X10_has_snd a3 a5 (mk x y)) ?_
      refine mS_steps (pc' := 66) (ls' := [.ref 0, .int a1, .int a2, .int a3, .int a4, .int a5, .int a6, .int (a3 &&& ((((1 : Int32) <<< (a5 &&& 31)) ||| ((1 : Int32) <<< (a6 &&& 31))) ^^^ (-1 : Int32))), mU]) (st' := [.int (f_X10_has a3 a5)]) (mem' := (mk x y)) 0 rfl ?_
      refine mS_jn (fun j => ∀ z : Unit, mS fm L xs (fun r : (Int32 × mX) => (.int r.1, mk r.2 y)) pg_X10_weak 82 [.ref 0, .int a1, .int a2, .int a3, .int a4, .int a5, .int a6, .int (a3 &&& ((((1 : Int32) <<< (a5 &&& 31)) ||| ((1 : Int32) <<< (a6 &&& 31))) ^^^ (-1 : Int32))), mU] [] (mk x y) (j z)) ?_ ?_
      · intro z
        refine mS_steps (pc' := 87) (ls' := [.ref 0, .int a1, .int a2, .int a3, .int a4, .int a5, .int a6, .int (a3 &&& ((((1 : Int32) <<< (a5 &&& 31)) ||| ((1 : Int32) <<< (a6 &&& 31))) ^^^ (-1 : Int32))), .int (0 : Int32)]) (st' := [.int (0 : Int32)]) (mem' := (mk x y)) 3 rfl ?_
        refine mS_if0 rfl (fun _ => ?_) (fun _ => ?_)
        · refine mS_steps (pc' := 38) (ls' := [.ref 0, .int a1, .int a2, .int a3, .int a4, .int a5, .int (a6 + (1 : Int32)), .int (a3 &&& ((((1 : Int32) <<< (a5 &&& 31)) ||| ((1 : Int32) <<< (a6 &&& 31))) ^^^ (-1 : Int32))), .int (0 : Int32)]) (st' := []) (mem' := (mk x y)) 2 rfl ?_
          refine mS_forget [.ref 0, .int a1, .int a2, .int a3, .int a4, .int a5, .int (a6 + (1 : Int32)), mU, mU] ⟨Or.inr rfl, Or.inr rfl, Or.inr rfl, Or.inr rfl, Or.inr rfl, Or.inr rfl, Or.inr rfl, Or.inl rfl, Or.inl rfl, trivial⟩ ?_
          exact ih a4 (a6 + (1 : Int32)) x
        · refine mS_steps (pc' := 95) (ls' := [.ref 0, .int a1, .int a2, .int a3, .int a4, .int a5, .int a6, .int (a3 &&& ((((1 : Int32) <<< (a5 &&& 31)) ||| ((1 : Int32) <<< (a6 &&& 31))) ^^^ (-1 : Int32))), .int (0 : Int32)]) (st' := [.int (a3 &&& ((((1 : Int32) <<< (a5 &&& 31)) ||| ((1 : Int32) <<< (a6 &&& 31))) ^^^ (-1 : Int32))), .int a2, .int a1, .ref 0]) (mem' := (mk x y)) 4 rfl ?_
          refine mS_bind (fun q4 hq4 => mS_call 232 4 [.ref 0, .int a1, .int a2, .int (a3 &&& ((((1 : Int32) <<< (a5 &&& 31)) ||| ((1 : Int32) <<< (a6 &&& 31))) ^^^ (-1 : Int32)))] [] rfl rfl rfl ⟨_, _, _, rfl, rfl⟩ (Nat.le_of_ble_eq_true rfl) (Nat.le_of_ble_eq_true rfl) hq4 (f_X10_comes_snd a1 a2 (a3 &&& ((((1 : Int32) <<< (a5 &&& 31)) ||| ((1 : Int32) <<< (a6 &&& 31))) ^^^ (-1 : Int32))) x y) ?_)
          refine mS_steps (pc' := 98) (ls' := [.ref 0, .int a1, .int a2, .int a3, .int a4, .int a5, .int a6, .int (a3 &&& ((((1 : Int32) <<< (a5 &&& 31)) ||| ((1 : Int32) <<< (a6 &&& 31))) ^^^ (-1 : Int32))), .int (0 : Int32)]) (st' := [.int q4.1]) (mem' := (mk q4.2 y)) 0 rfl ?_
          refine mS_if1 rfl (fun _ => ?_) (fun _ => ?_)
          · refine mS_steps (pc' := 109) (ls' := [.ref 0, .int a1, .int a2, .int a3, .int a4, .int a5, .int a6, .int (a3 &&& ((((1 : Int32) <<< (a5 &&& 31)) ||| ((1 : Int32) <<< (a6 &&& 31))) ^^^ (-1 : Int32))), .int (0 : Int32)]) (st' := [.int (a3 &&& ((((1 : Int32) <<< (a5 &&& 31)) ||| ((1 : Int32) <<< (a6 &&& 31))) ^^^ (-1 : Int32))), .int a2, .int a1, .ref 14]) (mem' := (mk q4.2 y)) 5 rfl ?_
            refine mS_bind (fun q5 hq5 => mS_call 235 4 [.ref 14, .int a1, .int a2, .int (a3 &&& ((((1 : Int32) <<< (a5 &&& 31)) ||| ((1 : Int32) <<< (a6 &&& 31))) ^^^ (-1 : Int32)))] [] rfl rfl rfl ⟨_, _, _, rfl, rfl⟩ (Nat.le_of_ble_eq_true rfl) (Nat.le_of_ble_eq_true rfl) hq5 (f_X6_joined_snd a1 a2 (a3 &&& ((((1 : Int32) <<< (a5 &&& 31)) ||| ((1 : Int32) <<< (a6 &&& 31))) ^^^ (-1 : Int32))) q4.2 y) ?_)
            refine mS_steps (pc' := 112) (ls' := [.ref 0, .int a1, .int a2, .int a3, .int a4, .int a5, .int a6, .int (a3 &&& ((((1 : Int32) <<< (a5 &&& 31)) ||| ((1 : Int32) <<< (a6 &&& 31))) ^^^ (-1 : Int32))), .int (0 : Int32)]) (st' := [.int q5]) (mem' := (mk q4.2 y)) 0 rfl ?_
            refine mS_if0 rfl (fun _ => ?_) (fun _ => ?_)
            · refine mS_steps (pc' := 38) (ls' := [.ref 0, .int a1, .int a2, .int a3, .int a4, .int a5, .int (a6 + (1 : Int32)), .int (a3 &&& ((((1 : Int32) <<< (a5 &&& 31)) ||| ((1 : Int32) <<< (a6 &&& 31))) ^^^ (-1 : Int32))), .int (0 : Int32)]) (st' := []) (mem' := (mk q4.2 y)) 2 rfl ?_
              refine mS_forget [.ref 0, .int a1, .int a2, .int a3, .int a4, .int a5, .int (a6 + (1 : Int32)), mU, mU] ⟨Or.inr rfl, Or.inr rfl, Or.inr rfl, Or.inr rfl, Or.inr rfl, Or.inr rfl, Or.inr rfl, Or.inl rfl, Or.inl rfl, trivial⟩ ?_
              exact ih a4 (a6 + (1 : Int32)) q4.2
            · refine mS_steps (pc' := 38) (ls' := [.ref 0, .int a1, .int a2, .int a3, .int (a4 + (1 : Int32)), .int a5, .int (a6 + (1 : Int32)), .int (a3 &&& ((((1 : Int32) <<< (a5 &&& 31)) ||| ((1 : Int32) <<< (a6 &&& 31))) ^^^ (-1 : Int32))), .int (0 : Int32)]) (st' := []) (mem' := (mk q4.2 y)) 3 rfl ?_
              refine mS_forget [.ref 0, .int a1, .int a2, .int a3, .int (a4 + (1 : Int32)), .int a5, .int (a6 + (1 : Int32)), mU, mU] ⟨Or.inr rfl, Or.inr rfl, Or.inr rfl, Or.inr rfl, Or.inr rfl, Or.inr rfl, Or.inr rfl, Or.inl rfl, Or.inl rfl, trivial⟩ ?_
              exact ih (a4 + (1 : Int32)) (a6 + (1 : Int32)) q4.2
          · refine mS_steps (pc' := 38) (ls' := [.ref 0, .int a1, .int a2, .int a3, .int a4, .int a5, .int (a6 + (1 : Int32)), .int (a3 &&& ((((1 : Int32) <<< (a5 &&& 31)) ||| ((1 : Int32) <<< (a6 &&& 31))) ^^^ (-1 : Int32))), .int (0 : Int32)]) (st' := []) (mem' := (mk q4.2 y)) 2 rfl ?_
            refine mS_forget [.ref 0, .int a1, .int a2, .int a3, .int a4, .int a5, .int (a6 + (1 : Int32)), mU, mU] ⟨Or.inr rfl, Or.inr rfl, Or.inr rfl, Or.inr rfl, Or.inr rfl, Or.inr rfl, Or.inr rfl, Or.inl rfl, Or.inl rfl, trivial⟩ ?_
            exact ih a4 (a6 + (1 : Int32)) q4.2
      intro j3 hj3
      refine mS_if0 rfl (fun _ => ?_) (fun _ => ?_)
      · exact hj3 ()
      · refine mS_steps (pc' := 72) (ls' := [.ref 0, .int a1, .int a2, .int a3, .int a4, .int a5, .int a6, .int (a3 &&& ((((1 : Int32) <<< (a5 &&& 31)) ||| ((1 : Int32) <<< (a6 &&& 31))) ^^^ (-1 : Int32))), mU]) (st' := [.int a6, .int a3]) (mem' := (mk x y)) 2 rfl ?_
        refine mS_call (q := (f_X10_has a3 a6)) 57 2 [.int a3, .int a6] [] rfl rfl rfl ⟨_, _, _, rfl, rfl⟩ (Nat.le_of_ble_eq_true rfl) (Nat.le_of_ble_eq_true rfl) rfl (f_X10_has_snd a3 a6 (mk x y)) ?_
        refine mS_steps (pc' := 75) (ls' := [.ref 0, .int a1, .int a2, .int a3, .int a4, .int a5, .int a6, .int (a3 &&& ((((1 : Int32) <<< (a5 &&& 31)) ||| ((1 : Int32) <<< (a6 &&& 31))) ^^^ (-1 : Int32))), mU]) (st' := [.int (f_X10_has a3 a6)]) (mem' := (mk x y)) 0 rfl ?_
        refine mS_if0 rfl (fun _ => ?_) (fun _ => ?_)
        · exact hj3 ()
        · refine mS_steps (pc' := 87) (ls' := [.ref 0, .int a1, .int a2, .int a3, .int a4, .int a5, .int a6, .int (a3 &&& ((((1 : Int32) <<< (a5 &&& 31)) ||| ((1 : Int32) <<< (a6 &&& 31))) ^^^ (-1 : Int32))), .int (1 : Int32)]) (st' := [.int (1 : Int32)]) (mem' := (mk x y)) 4 rfl ?_
          refine mS_if0 rfl (fun _ => ?_) (fun _ => ?_)
          · refine mS_steps (pc' := 38) (ls' := [.ref 0, .int a1, .int a2, .int a3, .int a4, .int a5, .int (a6 + (1 : Int32)), .int (a3 &&& ((((1 : Int32) <<< (a5 &&& 31)) ||| ((1 : Int32) <<< (a6 &&& 31))) ^^^ (-1 : Int32))), .int (1 : Int32)]) (st' := []) (mem' := (mk x y)) 2 rfl ?_
            refine mS_forget [.ref 0, .int a1, .int a2, .int a3, .int a4, .int a5, .int (a6 + (1 : Int32)), mU, mU] ⟨Or.inr rfl, Or.inr rfl, Or.inr rfl, Or.inr rfl, Or.inr rfl, Or.inr rfl, Or.inr rfl, Or.inl rfl, Or.inl rfl, trivial⟩ ?_
            exact ih a4 (a6 + (1 : Int32)) x
          · refine mS_steps (pc' := 95) (ls' := [.ref 0, .int a1, .int a2, .int a3, .int a4, .int a5, .int a6, .int (a3 &&& ((((1 : Int32) <<< (a5 &&& 31)) ||| ((1 : Int32) <<< (a6 &&& 31))) ^^^ (-1 : Int32))), .int (1 : Int32)]) (st' := [.int (a3 &&& ((((1 : Int32) <<< (a5 &&& 31)) ||| ((1 : Int32) <<< (a6 &&& 31))) ^^^ (-1 : Int32))), .int a2, .int a1, .ref 0]) (mem' := (mk x y)) 4 rfl ?_
            refine mS_bind (fun q6 hq6 => mS_call 232 4 [.ref 0, .int a1, .int a2, .int (a3 &&& ((((1 : Int32) <<< (a5 &&& 31)) ||| ((1 : Int32) <<< (a6 &&& 31))) ^^^ (-1 : Int32)))] [] rfl rfl rfl ⟨_, _, _, rfl, rfl⟩ (Nat.le_of_ble_eq_true rfl) (Nat.le_of_ble_eq_true rfl) hq6 (f_X10_comes_snd a1 a2 (a3 &&& ((((1 : Int32) <<< (a5 &&& 31)) ||| ((1 : Int32) <<< (a6 &&& 31))) ^^^ (-1 : Int32))) x y) ?_)
            refine mS_steps (pc' := 98) (ls' := [.ref 0, .int a1, .int a2, .int a3, .int a4, .int a5, .int a6, .int (a3 &&& ((((1 : Int32) <<< (a5 &&& 31)) ||| ((1 : Int32) <<< (a6 &&& 31))) ^^^ (-1 : Int32))), .int (1 : Int32)]) (st' := [.int q6.1]) (mem' := (mk q6.2 y)) 0 rfl ?_
            refine mS_if1 rfl (fun _ => ?_) (fun _ => ?_)
            · refine mS_steps (pc' := 109) (ls' := [.ref 0, .int a1, .int a2, .int a3, .int a4, .int a5, .int a6, .int (a3 &&& ((((1 : Int32) <<< (a5 &&& 31)) ||| ((1 : Int32) <<< (a6 &&& 31))) ^^^ (-1 : Int32))), .int (1 : Int32)]) (st' := [.int (a3 &&& ((((1 : Int32) <<< (a5 &&& 31)) ||| ((1 : Int32) <<< (a6 &&& 31))) ^^^ (-1 : Int32))), .int a2, .int a1, .ref 14]) (mem' := (mk q6.2 y)) 5 rfl ?_
              refine mS_bind (fun q7 hq7 => mS_call 235 4 [.ref 14, .int a1, .int a2, .int (a3 &&& ((((1 : Int32) <<< (a5 &&& 31)) ||| ((1 : Int32) <<< (a6 &&& 31))) ^^^ (-1 : Int32)))] [] rfl rfl rfl ⟨_, _, _, rfl, rfl⟩ (Nat.le_of_ble_eq_true rfl) (Nat.le_of_ble_eq_true rfl) hq7 (f_X6_joined_snd a1 a2 (a3 &&& ((((1 : Int32) <<< (a5 &&& 31)) ||| ((1 : Int32) <<< (a6 &&& 31))) ^^^ (-1 : Int32))) q6.2 y) ?_)
              refine mS_steps (pc' := 112) (ls' := [.ref 0, .int a1, .int a2, .int a3, .int a4, .int a5, .int a6, .int (a3 &&& ((((1 : Int32) <<< (a5 &&& 31)) ||| ((1 : Int32) <<< (a6 &&& 31))) ^^^ (-1 : Int32))), .int (1 : Int32)]) (st' := [.int q7]) (mem' := (mk q6.2 y)) 0 rfl ?_
              refine mS_if0 rfl (fun _ => ?_) (fun _ => ?_)
              · refine mS_steps (pc' := 38) (ls' := [.ref 0, .int a1, .int a2, .int a3, .int a4, .int a5, .int (a6 + (1 : Int32)), .int (a3 &&& ((((1 : Int32) <<< (a5 &&& 31)) ||| ((1 : Int32) <<< (a6 &&& 31))) ^^^ (-1 : Int32))), .int (1 : Int32)]) (st' := []) (mem' := (mk q6.2 y)) 2 rfl ?_
                refine mS_forget [.ref 0, .int a1, .int a2, .int a3, .int a4, .int a5, .int (a6 + (1 : Int32)), mU, mU] ⟨Or.inr rfl, Or.inr rfl, Or.inr rfl, Or.inr rfl, Or.inr rfl, Or.inr rfl, Or.inr rfl, Or.inl rfl, Or.inl rfl, trivial⟩ ?_
                exact ih a4 (a6 + (1 : Int32)) q6.2
              · refine mS_steps (pc' := 38) (ls' := [.ref 0, .int a1, .int a2, .int a3, .int (a4 + (1 : Int32)), .int a5, .int (a6 + (1 : Int32)), .int (a3 &&& ((((1 : Int32) <<< (a5 &&& 31)) ||| ((1 : Int32) <<< (a6 &&& 31))) ^^^ (-1 : Int32))), .int (1 : Int32)]) (st' := []) (mem' := (mk q6.2 y)) 3 rfl ?_
                refine mS_forget [.ref 0, .int a1, .int a2, .int a3, .int (a4 + (1 : Int32)), .int a5, .int (a6 + (1 : Int32)), mU, mU] ⟨Or.inr rfl, Or.inr rfl, Or.inr rfl, Or.inr rfl, Or.inr rfl, Or.inr rfl, Or.inr rfl, Or.inl rfl, Or.inl rfl, trivial⟩ ?_
                exact ih (a4 + (1 : Int32)) (a6 + (1 : Int32)) q6.2
            · refine mS_steps (pc' := 38) (ls' := [.ref 0, .int a1, .int a2, .int a3, .int a4, .int a5, .int (a6 + (1 : Int32)), .int (a3 &&& ((((1 : Int32) <<< (a5 &&& 31)) ||| ((1 : Int32) <<< (a6 &&& 31))) ^^^ (-1 : Int32))), .int (1 : Int32)]) (st' := []) (mem' := (mk q6.2 y)) 2 rfl ?_
              refine mS_forget [.ref 0, .int a1, .int a2, .int a3, .int a4, .int a5, .int (a6 + (1 : Int32)), mU, mU] ⟨Or.inr rfl, Or.inr rfl, Or.inr rfl, Or.inr rfl, Or.inr rfl, Or.inr rfl, Or.inr rfl, Or.inl rfl, Or.inl rfl, trivial⟩ ?_
              exact ih a4 (a6 + (1 : Int32)) q6.2
set_option maxRecDepth 20000 in
set_option maxHeartbeats 2000000 in
theorem f_X10_weak_L25_snd {fm : Value} {L : Nat} {xs : Nat → Int32} (a1 : Int32) (a2 : Int32) (a3 : Int32) (y : mY) : ∀ (n : Nat) (a4 : Int32) (a5 : Int32) (x : mX), mS fm L xs (fun r : (Int32 × mX) => (.int r.1, mk r.2 y)) pg_X10_weak 25 [.ref 0, .int a1, .int a2, .int a3, .int a4, .int a5, mU, mU, mU] [] (mk x y) (f_X10_weak_L25 a1 a2 a3 n a4 a5 x) := by
  intro n
  induction n with
  | zero => intro a4 a5 x; exact mS_none
  | succ n ih =>
    intro a4 a5 x
    rw [f_X10_weak_L25]
    refine mS_steps (pc' := 29) (ls' := [.ref 0, .int a1, .int a2, .int a3, .int a4, .int a5, mU, mU, mU]) (st' := [.int (16 : Int32), .int a5]) (mem' := (mk x y)) 2 rfl ?_
    refine mS_ic3 rfl (fun _ => ?_) (fun _ => ?_)
    · refine mS_steps (pc' := 132) (ls' := [.ref 0, .int a1, .int a2, .int a3, .int a4, .int a5, mU, mU, mU]) (st' := [.int a4]) (mem' := (mk x y)) 1 rfl ?_
      exact mS_reti ⟨_, _, _, _, _, rfl, rfl⟩ rfl
    · refine mS_steps (pc' := 38) (ls' := [.ref 0, .int a1, .int a2, .int a3, .int a4, .int a5, .int (a5 + (1 : Int32)), mU, mU]) (st' := []) (mem' := (mk x y)) 4 rfl ?_
      refine f_X10_weak_L38_snd a1 a2 a3 a5 y _ ?_ mF a4 (a5 + (1 : Int32)) x
      · intro v8 x9
        refine mS_steps (pc' := 25) (ls' := [.ref 0, .int a1, .int a2, .int a3, .int v8, .int (a5 + (1 : Int32)), mU, mU, mU]) (st' := []) (mem' := (mk x9 y)) 2 rfl ?_
        exact ih v8 (a5 + (1 : Int32)) x9
set_option maxRecDepth 20000 in
set_option maxHeartbeats 2000000 in
theorem f_X10_weak_snd {fm : Value} {L : Nat} {xs : Nat → Int32} (p1 : Int32) (p2 : Int32) (x : mX) (y : mY) : mS fm L xs (fun r : (Int32 × mX) => (.int r.1, mk r.2 y)) pg_X10_weak 0 (m_entry [.ref 0, .int p1, .int p2] 9) [] (mk x y) ((f_X10_weak p1 p2 x)) := by
  unfold f_X10_weak
  refine mS_steps (pc' := 0) (ls' := [.ref 0, .int p1, .int p2, mU, mU, mU, mU, mU, mU]) (st' := []) (mem' := (mk x y)) 0 rfl ?_
  refine mS_steps (pc' := 3) (ls' := [.ref 0, .int p1, .int p2, mU, mU, mU, mU, mU, mU]) (st' := [.int p2, .int p1, .ref 0]) (mem' := (mk x y)) 3 rfl ?_
  refine mS_bind (fun q1 hq1 => mS_call 135 3 [.ref 0, .int p1, .int p2] [] rfl rfl rfl ⟨_, _, _, rfl, rfl⟩ (Nat.le_of_ble_eq_true rfl) (Nat.le_of_ble_eq_true rfl) hq1 (f_X10_canGo_snd p1 p2 x y) ?_)
  refine mS_steps (pc' := 6) (ls' := [.ref 0, .int p1, .int p2, mU, mU, mU, mU, mU, mU]) (st' := [.int q1.1]) (mem' := (mk q1.2 y)) 0 rfl ?_
  refine mS_if1 rfl (fun _ => ?_) (fun _ => ?_)
  · refine mS_steps (pc' := 10) (ls' := [.ref 0, .int p1, .int p2, mU, mU, mU, mU, mU, mU]) (st' := [.int (-1 : Int32)]) (mem' := (mk q1.2 y)) 1 rfl ?_
    exact mS_reti ⟨_, _, _, _, _, rfl, rfl⟩ rfl
  · refine mS_steps (pc' := 15) (ls' := [.ref 0, .int p1, .int p2, mU, mU, mU, mU, mU, mU]) (st' := [.ref 14]) (mem' := (mk q1.2 y)) 2 rfl ?_
    refine mS_bind (fun q2 hq2 => mS_call 61 1 [.ref 14] [] rfl rfl rfl ⟨_, _, _, rfl, rfl⟩ (Nat.le_of_ble_eq_true rfl) (Nat.le_of_ble_eq_true rfl) hq2 (f_X6_live_14_snd  q1.2 y) ?_)
    refine mS_steps (pc' := 25) (ls' := [.ref 0, .int p1, .int p2, .int q2, .int (0 : Int32), .int (0 : Int32), mU, mU, mU]) (st' := []) (mem' := (mk q1.2 y)) 5 rfl ?_
    refine f_X10_weak_L25_snd p1 p2 q2 y mF (0 : Int32) (0 : Int32) q1.2
def f_X11_weak_L36 (a1 : Int32) (a2 : Int32) (a3 : Int32) (a5 : Int32) : Nat → Int32 → Int32 → mY → (Int32 → mY → Option (Int32 × mY)) → Option (Int32 × mY)
  | 0, _, _, _, _ => none
  | n + 1, a4, a6, y, k116 => (if a5 ≤ a6 then (k116 a4 y) else (if ((((1 : Int32) <<< (a5 &&& 31)) ||| ((1 : Int32) <<< (a6 &&& 31))) &&& (a3 ^^^ (-1 : Int32))) = 0 then ((f_X11_goes a1 a2 (((1 : Int32) <<< (a5 &&& 31)) ||| ((1 : Int32) <<< (a6 &&& 31))) y).bind fun q3 => (if q3.1 = 0 then ((f_X11_lays_ (2 : Int32) (a3 &&& ((((1 : Int32) <<< (a5 &&& 31)) ||| ((1 : Int32) <<< (a6 &&& 31))) ^^^ (-1 : Int32))) q3.2).bind fun q4 => ((f_X11_comes (2 : Int32) a1 (q4.1 289 0) q4).bind fun q5 => (if (f_X11_has q5 a2) = 0 then (f_X11_weak_L36 a1 a2 a3 a5 n a4 (a6 + (1 : Int32)) q4 k116) else (f_X11_weak_L36 a1 a2 a3 a5 n (a4 + (1 : Int32)) (a6 + (1 : Int32)) q4 k116)))) else (f_X11_weak_L36 a1 a2 a3 a5 n a4 (a6 + (1 : Int32)) q3.2 k116))) else (f_X11_weak_L36 a1 a2 a3 a5 n a4 (a6 + (1 : Int32)) y k116)))
def f_X11_weak_L22 (a1 : Int32) (a2 : Int32) (a3 : Int32) : Nat → Int32 → Int32 → mY → Option (Int32 × mY)
  | 0, _, _, _ => none
  | n + 1, a4, a5, y => (if (y.1 289 4) ≤ a5 then (some (a4, y)) else (f_X11_weak_L36 a1 a2 a3 a5 mF a4 (0 : Int32) y (fun v6 y7 => (f_X11_weak_L22 a1 a2 a3 n v6 (a5 + (1 : Int32)) y7))))
def f_X11_weak (p1 : Int32) (p2 : Int32) (y : mY) : Option (Int32 × mY) := ((f_X11_canSend p1 p2 y).bind fun q1 => (if q1 = 0 then (some ((-1 : Int32), y)) else ((f_X11_netLinks y).bind fun q2 => (f_X11_weak_L22 p1 p2 q2 mF (0 : Int32) (1 : Int32) y))))
set_option maxRecDepth 20000 in
set_option maxHeartbeats 2000000 in
theorem f_X11_weak_L36_snd {fm : Value} {L : Nat} {xs : Nat → Int32} (a1 : Int32) (a2 : Int32) (a3 : Int32) (a5 : Int32) (x : mX) (k116 : Int32 → mY → Option (Int32 × mY)) (hk116 : ∀ (b4 : Int32) (z0 : mY), mS fm L xs (fun r : (Int32 × mY) => (.int r.1, mk x r.2)) pg_X11_weak 116 [.ref 279, .int a1, .int a2, .int a3, .int b4, .int a5, mU, mU] [] (mk x z0) (k116 b4 z0)) : ∀ (n : Nat) (a4 : Int32) (a6 : Int32) (y : mY), mS fm L xs (fun r : (Int32 × mY) => (.int r.1, mk x r.2)) pg_X11_weak 36 [.ref 279, .int a1, .int a2, .int a3, .int a4, .int a5, .int a6, mU] [] (mk x y) (f_X11_weak_L36 a1 a2 a3 a5 n a4 a6 y k116) := by
  intro n
  induction n with
  | zero => intro a4 a6 y; exact mS_none
  | succ n ih =>
    intro a4 a6 y
    rw [f_X11_weak_L36]
    refine mS_steps (pc' := 40) (ls' := [.ref 279, .int a1, .int a2, .int a3, .int a4, .int a5, .int a6, mU]) (st' := [.int a5, .int a6]) (mem' := (mk x y)) 2 rfl ?_
    refine mS_ic3 rfl (fun _ => ?_) (fun _ => ?_)
    · refine mS_forget [.ref 279, .int a1, .int a2, .int a3, .int a4, .int a5, mU, mU] ⟨Or.inr rfl, Or.inr rfl, Or.inr rfl, Or.inr rfl, Or.inr rfl, Or.inr rfl, Or.inl rfl, Or.inl rfl, trivial⟩ ?_
      exact hk116 a4 y
    · refine mS_steps (pc' := 60) (ls' := [.ref 279, .int a1, .int a2, .int a3, .int a4, .int a5, .int a6, .int (((1 : Int32) <<< (a5 &&& 31)) ||| ((1 : Int32) <<< (a6 &&& 31)))]) (st' := [.int ((((1 : Int32) <<< (a5 &&& 31)) ||| ((1 : Int32) <<< (a6 &&& 31))) &&& (a3 ^^^ (-1 : Int32)))]) (mem' := (mk x y)) 13 rfl ?_
      refine mS_if1 rfl (fun _ => ?_) (fun _ => ?_)
      · refine mS_steps (pc' := 68) (ls' := [.ref 279, .int a1, .int a2, .int a3, .int a4, .int a5, .int a6, .int (((1 : Int32) <<< (a5 &&& 31)) ||| ((1 : Int32) <<< (a6 &&& 31)))]) (st' := [.int (((1 : Int32) <<< (a5 &&& 31)) ||| ((1 : Int32) <<< (a6 &&& 31))), .int a2, .int a1, .ref 279]) (mem' := (mk x y)) 4 rfl ?_
        refine mS_bind (fun q3 hq3 => mS_call 159 4 [.ref 279, .int a1, .int a2, .int (((1 : Int32) <<< (a5 &&& 31)) ||| ((1 : Int32) <<< (a6 &&& 31)))] [] rfl rfl rfl ⟨_, _, _, rfl, rfl⟩ (Nat.le_of_ble_eq_true rfl) (Nat.le_of_ble_eq_true rfl) hq3 (f_X11_goes_snd a1 a2 (((1 : Int32) <<< (a5 &&& 31)) ||| ((1 : Int32) <<< (a6 &&& 31))) y x) ?_)
        refine mS_steps (pc' := 71) (ls' := [.ref 279, .int a1, .int a2, .int a3, .int a4, .int a5, .int a6, .int (((1 : Int32) <<< (a5 &&& 31)) ||| ((1 : Int32) <<< (a6 &&& 31)))]) (st' := [.int q3.1]) (mem' := (mk x q3.2)) 0 rfl ?_
        refine mS_if0 rfl (fun _ => ?_) (fun _ => ?_)
        · refine mS_steps (pc' := 85) (ls' := [.ref 279, .int a1, .int a2, .int a3, .int a4, .int a5, .int a6, .int (((1 : Int32) <<< (a5 &&& 31)) ||| ((1 : Int32) <<< (a6 &&& 31)))]) (st' := [.int (a3 &&& ((((1 : Int32) <<< (a5 &&& 31)) ||| ((1 : Int32) <<< (a6 &&& 31))) ^^^ (-1 : Int32))), .int (2 : Int32), .ref 279]) (mem' := (mk x q3.2)) 7 rfl ?_
          refine mS_bind (fun q4 hq4 => mS_call 142 3 [.ref 279, .int (2 : Int32), .int (a3 &&& ((((1 : Int32) <<< (a5 &&& 31)) ||| ((1 : Int32) <<< (a6 &&& 31))) ^^^ (-1 : Int32)))] [] rfl rfl rfl ⟨_, _, _, rfl, rfl⟩ (Nat.le_of_ble_eq_true rfl) (Nat.le_of_ble_eq_true rfl) hq4 (f_X11_lays__snd (2 : Int32) (a3 &&& ((((1 : Int32) <<< (a5 &&& 31)) ||| ((1 : Int32) <<< (a6 &&& 31))) ^^^ (-1 : Int32))) q3.2 x) ?_)
          refine mS_steps (pc' := 96) (ls' := [.ref 279, .int a1, .int a2, .int a3, .int a4, .int a5, .int a6, .int (((1 : Int32) <<< (a5 &&& 31)) ||| ((1 : Int32) <<< (a6 &&& 31)))]) (st' := [.int (0 : Int32), .ref 289, .int a1, .int (2 : Int32), .ref 279]) (mem' := (mk x q4)) 6 rfl ?_
          refine mS_aldc (b := 0) (n := 72) (c := 0) (z := (q4.1 289 0)) rfl (by decide) rfl (by decide) (by decide) (by decide) rfl ?_
          refine mS_bind (fun q5 hq5 => mS_call 146 4 [.ref 279, .int (2 : Int32), .int a1, .int (q4.1 289 0)] [] rfl rfl rfl ⟨_, _, _, rfl, rfl⟩ (Nat.le_of_ble_eq_true rfl) (Nat.le_of_ble_eq_true rfl) hq5 (f_X11_comes_snd (2 : Int32) a1 (q4.1 289 0) q4 x) ?_)
          refine mS_steps (pc' := 101) (ls' := [.ref 279, .int a1, .int a2, .int a3, .int a4, .int a5, .int a6, .int (((1 : Int32) <<< (a5 &&& 31)) ||| ((1 : Int32) <<< (a6 &&& 31)))]) (st' := [.int a2, .int q5]) (mem' := (mk x q4)) 1 rfl ?_
          refine mS_call (q := (f_X11_has q5 a2)) 87 2 [.int q5, .int a2] [] rfl rfl rfl ⟨_, _, _, rfl, rfl⟩ (Nat.le_of_ble_eq_true rfl) (Nat.le_of_ble_eq_true rfl) rfl (f_X11_has_snd q5 a2 (mk x q4)) ?_
          refine mS_steps (pc' := 104) (ls' := [.ref 279, .int a1, .int a2, .int a3, .int a4, .int a5, .int a6, .int (((1 : Int32) <<< (a5 &&& 31)) ||| ((1 : Int32) <<< (a6 &&& 31)))]) (st' := [.int (f_X11_has q5 a2)]) (mem' := (mk x q4)) 0 rfl ?_
          refine mS_if0 rfl (fun _ => ?_) (fun _ => ?_)
          · refine mS_steps (pc' := 36) (ls' := [.ref 279, .int a1, .int a2, .int a3, .int a4, .int a5, .int (a6 + (1 : Int32)), .int (((1 : Int32) <<< (a5 &&& 31)) ||| ((1 : Int32) <<< (a6 &&& 31)))]) (st' := []) (mem' := (mk x q4)) 2 rfl ?_
            refine mS_forget [.ref 279, .int a1, .int a2, .int a3, .int a4, .int a5, .int (a6 + (1 : Int32)), mU] ⟨Or.inr rfl, Or.inr rfl, Or.inr rfl, Or.inr rfl, Or.inr rfl, Or.inr rfl, Or.inr rfl, Or.inl rfl, trivial⟩ ?_
            exact ih a4 (a6 + (1 : Int32)) q4
          · refine mS_steps (pc' := 36) (ls' := [.ref 279, .int a1, .int a2, .int a3, .int (a4 + (1 : Int32)), .int a5, .int (a6 + (1 : Int32)), .int (((1 : Int32) <<< (a5 &&& 31)) ||| ((1 : Int32) <<< (a6 &&& 31)))]) (st' := []) (mem' := (mk x q4)) 3 rfl ?_
            refine mS_forget [.ref 279, .int a1, .int a2, .int a3, .int (a4 + (1 : Int32)), .int a5, .int (a6 + (1 : Int32)), mU] ⟨Or.inr rfl, Or.inr rfl, Or.inr rfl, Or.inr rfl, Or.inr rfl, Or.inr rfl, Or.inr rfl, Or.inl rfl, trivial⟩ ?_
            exact ih (a4 + (1 : Int32)) (a6 + (1 : Int32)) q4
        · refine mS_steps (pc' := 36) (ls' := [.ref 279, .int a1, .int a2, .int a3, .int a4, .int a5, .int (a6 + (1 : Int32)), .int (((1 : Int32) <<< (a5 &&& 31)) ||| ((1 : Int32) <<< (a6 &&& 31)))]) (st' := []) (mem' := (mk x q3.2)) 3 rfl ?_
          refine mS_forget [.ref 279, .int a1, .int a2, .int a3, .int a4, .int a5, .int (a6 + (1 : Int32)), mU] ⟨Or.inr rfl, Or.inr rfl, Or.inr rfl, Or.inr rfl, Or.inr rfl, Or.inr rfl, Or.inr rfl, Or.inl rfl, trivial⟩ ?_
          exact ih a4 (a6 + (1 : Int32)) q3.2
      · refine mS_steps (pc' := 36) (ls' := [.ref 279, .int a1, .int a2, .int a3, .int a4, .int a5, .int (a6 + (1 : Int32)), .int (((1 : Int32) <<< (a5 &&& 31)) ||| ((1 : Int32) <<< (a6 &&& 31)))]) (st' := []) (mem' := (mk x y)) 2 rfl ?_
        refine mS_forget [.ref 279, .int a1, .int a2, .int a3, .int a4, .int a5, .int (a6 + (1 : Int32)), mU] ⟨Or.inr rfl, Or.inr rfl, Or.inr rfl, Or.inr rfl, Or.inr rfl, Or.inr rfl, Or.inr rfl, Or.inl rfl, trivial⟩ ?_
        exact ih a4 (a6 + (1 : Int32)) y
set_option maxRecDepth 20000 in
set_option maxHeartbeats 2000000 in
theorem f_X11_weak_L22_snd {fm : Value} {L : Nat} {xs : Nat → Int32} (a1 : Int32) (a2 : Int32) (a3 : Int32) (x : mX) : ∀ (n : Nat) (a4 : Int32) (a5 : Int32) (y : mY), mS fm L xs (fun r : (Int32 × mY) => (.int r.1, mk x r.2)) pg_X11_weak 22 [.ref 279, .int a1, .int a2, .int a3, .int a4, .int a5, mU, mU] [] (mk x y) (f_X11_weak_L22 a1 a2 a3 n a4 a5 y) := by
  intro n
  induction n with
  | zero => intro a4 a5 y; exact mS_none
  | succ n ih =>
    intro a4 a5 y
    rw [f_X11_weak_L22]
    refine mS_steps (pc' := 29) (ls' := [.ref 279, .int a1, .int a2, .int a3, .int a4, .int a5, mU, mU]) (st' := [.int (4 : Int32), .ref 289, .int a5]) (mem' := (mk x y)) 4 rfl ?_
    refine mS_aldc (b := 0) (n := 72) (c := 4) (z := (y.1 289 4)) rfl (by decide) rfl (by decide) (by decide) (by decide) rfl ?_
    refine mS_ic3 rfl (fun _ => ?_) (fun _ => ?_)
    · refine mS_steps (pc' := 124) (ls' := [.ref 279, .int a1, .int a2, .int a3, .int a4, .int a5, mU, mU]) (st' := [.int a4]) (mem' := (mk x y)) 1 rfl ?_
      exact mS_reti ⟨_, _, _, _, _, rfl, rfl⟩ rfl
    · refine mS_steps (pc' := 36) (ls' := [.ref 279, .int a1, .int a2, .int a3, .int a4, .int a5, .int (0 : Int32), mU]) (st' := []) (mem' := (mk x y)) 2 rfl ?_
      refine f_X11_weak_L36_snd a1 a2 a3 a5 x _ ?_ mF a4 (0 : Int32) y
      · intro v6 y7
        refine mS_steps (pc' := 22) (ls' := [.ref 279, .int a1, .int a2, .int a3, .int v6, .int (a5 + (1 : Int32)), mU, mU]) (st' := []) (mem' := (mk x y7)) 2 rfl ?_
        exact ih v6 (a5 + (1 : Int32)) y7
set_option maxRecDepth 20000 in
set_option maxHeartbeats 2000000 in
theorem f_X11_weak_snd {fm : Value} {L : Nat} {xs : Nat → Int32} (p1 : Int32) (p2 : Int32) (y : mY) (x : mX) : mS fm L xs (fun r : (Int32 × mY) => (.int r.1, mk x r.2)) pg_X11_weak 0 (m_entry [.ref 279, .int p1, .int p2] 8) [] (mk x y) ((f_X11_weak p1 p2 y)) := by
  unfold f_X11_weak
  refine mS_steps (pc' := 0) (ls' := [.ref 279, .int p1, .int p2, mU, mU, mU, mU, mU]) (st' := []) (mem' := (mk x y)) 0 rfl ?_
  refine mS_steps (pc' := 3) (ls' := [.ref 279, .int p1, .int p2, mU, mU, mU, mU, mU]) (st' := [.int p2, .int p1, .ref 279]) (mem' := (mk x y)) 3 rfl ?_
  refine mS_bind (fun q1 hq1 => mS_call 141 3 [.ref 279, .int p1, .int p2] [] rfl rfl rfl ⟨_, _, _, rfl, rfl⟩ (Nat.le_of_ble_eq_true rfl) (Nat.le_of_ble_eq_true rfl) hq1 (f_X11_canSend_snd p1 p2 y x) ?_)
  refine mS_steps (pc' := 6) (ls' := [.ref 279, .int p1, .int p2, mU, mU, mU, mU, mU]) (st' := [.int q1]) (mem' := (mk x y)) 0 rfl ?_
  refine mS_if1 rfl (fun _ => ?_) (fun _ => ?_)
  · refine mS_steps (pc' := 10) (ls' := [.ref 279, .int p1, .int p2, mU, mU, mU, mU, mU]) (st' := [.int (-1 : Int32)]) (mem' := (mk x y)) 1 rfl ?_
    exact mS_reti ⟨_, _, _, _, _, rfl, rfl⟩ rfl
  · refine mS_steps (pc' := 12) (ls' := [.ref 279, .int p1, .int p2, mU, mU, mU, mU, mU]) (st' := [.ref 279]) (mem' := (mk x y)) 1 rfl ?_
    refine mS_bind (fun q2 hq2 => mS_call 89 1 [.ref 279] [] rfl rfl rfl ⟨_, _, _, rfl, rfl⟩ (Nat.le_of_ble_eq_true rfl) (Nat.le_of_ble_eq_true rfl) hq2 (f_X11_netLinks_snd  y x) ?_)
    refine mS_steps (pc' := 22) (ls' := [.ref 279, .int p1, .int p2, .int q2, .int (0 : Int32), .int (1 : Int32), mU, mU]) (st' := []) (mem' := (mk x y)) 5 rfl ?_
    refine f_X11_weak_L22_snd p1 p2 q2 x mF (0 : Int32) (1 : Int32) y
def f_X10_fillLoads_L10 : Nat → Int32 → mX → (mX → Option (Int32 × mX)) → Option (Int32 × mX)
  | 0, _, _, _ => none
  | n + 1, a2, x, k29 => (if (16 : Int32) ≤ a2 then (k29 x) else (if m_in a2 16 = true then (m_let (m_xs x 253 a2.toNatClampNeg (0 : Int32)) fun x2 => (f_X10_fillLoads_L10 n (a2 + (1 : Int32)) x2 k29)) else none))
def f_X10_fillLoads_L39 (a1 : Int32) (a2 : Int32) : Nat → Int32 → mX → (mX → Option (Int32 × mX)) → Option (Int32 × mX)
  | 0, _, _, _ => none
  | n + 1, a3, x, k85 => (if (8 : Int32) ≤ a3 then (k85 x) else ((f_X10_canGo a2 a3 x).bind fun q4 => (if q4.1 = 0 then (f_X10_fillLoads_L39 a1 a2 n (a3 + (1 : Int32)) q4.2 k85) else ((f_X8_run a2 a3 a1 q4.2).bind fun q5 => ((f_X8_tally 253 q5).bind fun q6 => (f_X10_fillLoads_L39 a1 a2 n (a3 + (1 : Int32)) q6 k85))))))
def f_X10_fillLoads_L31 (a1 : Int32) : Nat → Int32 → mX → (mX → Option (Int32 × mX)) → Option (Int32 × mX)
  | 0, _, _, _ => none
  | n + 1, a2, x, k91 => (if (8 : Int32) ≤ a2 then (k91 x) else (f_X10_fillLoads_L39 a1 a2 mF (0 : Int32) x (fun x7 => (f_X10_fillLoads_L31 a1 n (a2 + (1 : Int32)) x7 k91))))
def f_X10_fillLoads_L95 : Nat → Int32 → Int32 → mX → Option (Int32 × mX)
  | 0, _, _, _ => none
  | n + 1, a2, a3, x => (if (16 : Int32) ≤ a3 then (some (a2, x)) else (if m_in a3 16 = true then (f_X10_fillLoads_L95 n (if a2 < (x.1 253 a3.toNatClampNeg) then (x.1 253 a3.toNatClampNeg) else a2) (a3 + (1 : Int32)) x) else none))
def f_X10_fillLoads (x : mX) : Option (Int32 × mX) := ((f_X6_live 14 x).bind fun q1 => (f_X10_fillLoads_L10 mF (0 : Int32) x (fun x3 => (f_X10_fillLoads_L31 q1 mF (0 : Int32) x3 (fun x8 => (f_X10_fillLoads_L95 mF (0 : Int32) (0 : Int32) x8))))))
set_option maxRecDepth 20000 in
set_option maxHeartbeats 2000000 in
theorem f_X10_fillLoads_L10_snd {fm : Value} {L : Nat} {xs : Nat → Int32} (a1 : Int32) (y : mY) (k29 : mX → Option (Int32 × mX)) (hk29 : ∀ (z0 : mX), mS fm L xs (fun r : (Int32 × mX) => (.int r.1, mk r.2 y)) pg_X10_fillLoads 29 [.ref 0, .int a1, mU, mU] [] (mk z0 y) (k29 z0)) : ∀ (n : Nat) (a2 : Int32) (x : mX), mS fm L xs (fun r : (Int32 × mX) => (.int r.1, mk r.2 y)) pg_X10_fillLoads 10 [.ref 0, .int a1, .int a2, mU] [] (mk x y) (f_X10_fillLoads_L10 n a2 x k29) := by
  intro n
  induction n with
  | zero => intro a2 x; exact mS_none
  | succ n ih =>
    intro a2 x
    rw [f_X10_fillLoads_L10]
    refine mS_steps (pc' := 13) (ls' := [.ref 0, .int a1, .int a2, mU]) (st' := [.int (16 : Int32), .int a2]) (mem' := (mk x y)) 2 rfl ?_
    refine mS_ic3 rfl (fun _ => ?_) (fun _ => ?_)
    · refine mS_forget [.ref 0, .int a1, mU, mU] ⟨Or.inr rfl, Or.inr rfl, Or.inl rfl, Or.inl rfl, trivial⟩ ?_
      exact hk29 x
    · refine mS_steps (pc' := 22) (ls' := [.ref 0, .int a1, .int a2, mU]) (st' := [.int (0 : Int32), .int a2, .ref 253]) (mem' := (mk x y)) 4 rfl ?_
      refine mS_ast0x (n := 16) rfl rfl (by decide) (fun _ => ?_)
      refine mS_letx (fun x2 => ?_)
      refine mS_steps (pc' := 10) (ls' := [.ref 0, .int a1, .int (a2 + (1 : Int32)), mU]) (st' := []) (mem' := (mk x2 y)) 2 rfl ?_
      exact ih (a2 + (1 : Int32)) x2
set_option maxRecDepth 20000 in
set_option maxHeartbeats 2000000 in
theorem f_X10_fillLoads_L39_snd {fm : Value} {L : Nat} {xs : Nat → Int32} (a1 : Int32) (a2 : Int32) (y : mY) (k85 : mX → Option (Int32 × mX)) (hk85 : ∀ (z0 : mX), mS fm L xs (fun r : (Int32 × mX) => (.int r.1, mk r.2 y)) pg_X10_fillLoads 85 [.ref 0, .int a1, .int a2, mU] [] (mk z0 y) (k85 z0)) : ∀ (n : Nat) (a3 : Int32) (x : mX), mS fm L xs (fun r : (Int32 × mX) => (.int r.1, mk r.2 y)) pg_X10_fillLoads 39 [.ref 0, .int a1, .int a2, .int a3] [] (mk x y) (f_X10_fillLoads_L39 a1 a2 n a3 x k85) := by
  intro n
  induction n with
  | zero => intro a3 x; exact mS_none
  | succ n ih =>
    intro a3 x
    rw [f_X10_fillLoads_L39]
    refine mS_steps (pc' := 42) (ls' := [.ref 0, .int a1, .int a2, .int a3]) (st' := [.int (8 : Int32), .int a3]) (mem' := (mk x y)) 2 rfl ?_
    refine mS_ic3 rfl (fun _ => ?_) (fun _ => ?_)
    · refine mS_forget [.ref 0, .int a1, .int a2, mU] ⟨Or.inr rfl, Or.inr rfl, Or.inr rfl, Or.inl rfl, trivial⟩ ?_
      exact hk85 x
    · refine mS_steps (pc' := 48) (ls' := [.ref 0, .int a1, .int a2, .int a3]) (st' := [.int a3, .int a2, .ref 0]) (mem' := (mk x y)) 3 rfl ?_
      refine mS_bind (fun q4 hq4 => mS_call 135 3 [.ref 0, .int a2, .int a3] [] rfl rfl rfl ⟨_, _, _, rfl, rfl⟩ (Nat.le_of_ble_eq_true rfl) (Nat.le_of_ble_eq_true rfl) hq4 (f_X10_canGo_snd a2 a3 x y) ?_)
      refine mS_steps (pc' := 51) (ls' := [.ref 0, .int a1, .int a2, .int a3]) (st' := [.int q4.1]) (mem' := (mk q4.2 y)) 0 rfl ?_
      refine mS_if0 rfl (fun _ => ?_) (fun _ => ?_)
      · refine mS_steps (pc' := 39) (ls' := [.ref 0, .int a1, .int a2, .int (a3 + (1 : Int32))]) (st' := []) (mem' := (mk q4.2 y)) 2 rfl ?_
        exact ih (a3 + (1 : Int32)) q4.2
      · refine mS_steps (pc' := 65) (ls' := [.ref 0, .int a1, .int a2, .int a3]) (st' := [.int a1, .int a3, .int a2, .ref 234, .ref 251]) (mem' := (mk q4.2 y)) 7 rfl ?_
        refine mS_bind (fun q5 hq5 => mS_call 138 5 [.ref 251, .ref 234, .int a2, .int a3, .int a1] [] rfl rfl rfl ⟨_, _, _, rfl, rfl⟩ (Nat.le_of_ble_eq_true rfl) (Nat.le_of_ble_eq_true rfl) hq5 (f_X8_run_snd a2 a3 a1 q4.2 y) ?_)
        refine mS_steps (pc' := 76) (ls' := [.ref 0, .int a1, .int a2, .int a3]) (st' := [.ref 253, .ref 251]) (mem' := (mk q5 y)) 4 rfl ?_
        refine mS_bind (fun q6 hq6 => mS_call 139 2 [.ref 251, .ref 253] [] rfl rfl rfl ⟨_, _, _, rfl, rfl⟩ (Nat.le_of_ble_eq_true rfl) (Nat.le_of_ble_eq_true rfl) hq6 (f_X8_tally_253_snd  q5 y) ?_)
        refine mS_steps (pc' := 39) (ls' := [.ref 0, .int a1, .int a2, .int (a3 + (1 : Int32))]) (st' := []) (mem' := (mk q6 y)) 2 rfl ?_
        exact ih (a3 + (1 : Int32)) q6
set_option maxRecDepth 20000 in
set_option maxHeartbeats 2000000 in
theorem f_X10_fillLoads_L31_snd {fm : Value} {L : Nat} {xs : Nat → Int32} (a1 : Int32) (y : mY) (k91 : mX → Option (Int32 × mX)) (hk91 : ∀ (z0 : mX), mS fm L xs (fun r : (Int32 × mX) => (.int r.1, mk r.2 y)) pg_X10_fillLoads 91 [.ref 0, mU, mU, mU] [] (mk z0 y) (k91 z0)) : ∀ (n : Nat) (a2 : Int32) (x : mX), mS fm L xs (fun r : (Int32 × mX) => (.int r.1, mk r.2 y)) pg_X10_fillLoads 31 [.ref 0, .int a1, .int a2, mU] [] (mk x y) (f_X10_fillLoads_L31 a1 n a2 x k91) := by
  intro n
  induction n with
  | zero => intro a2 x; exact mS_none
  | succ n ih =>
    intro a2 x
    rw [f_X10_fillLoads_L31]
    refine mS_steps (pc' := 34) (ls' := [.ref 0, .int a1, .int a2, mU]) (st' := [.int (8 : Int32), .int a2]) (mem' := (mk x y)) 2 rfl ?_
    refine mS_ic3 rfl (fun _ => ?_) (fun _ => ?_)
    · refine mS_forget [.ref 0, mU, mU, mU] ⟨Or.inr rfl, Or.inl rfl, Or.inl rfl, Or.inl rfl, trivial⟩ ?_
      exact hk91 x
    · refine mS_steps (pc' := 39) (ls' := [.ref 0, .int a1, .int a2, .int (0 : Int32)]) (st' := []) (mem' := (mk x y)) 2 rfl ?_
      refine f_X10_fillLoads_L39_snd a1 a2 y _ ?_ mF (0 : Int32) x
      · intro x7
        refine mS_steps (pc' := 31) (ls' := [.ref 0, .int a1, .int (a2 + (1 : Int32)), mU]) (st' := []) (mem' := (mk x7 y)) 2 rfl ?_
        exact ih (a2 + (1 : Int32)) x7
set_option maxRecDepth 20000 in
set_option maxHeartbeats 2000000 in
theorem f_X10_fillLoads_L95_snd {fm : Value} {L : Nat} {xs : Nat → Int32} (x : mX) (y : mY) : ∀ (n : Nat) (a2 : Int32) (a3 : Int32), mS fm L xs (fun r : (Int32 × mX) => (.int r.1, mk r.2 y)) pg_X10_fillLoads 95 [.ref 0, mU, .int a2, .int a3] [] (mk x y) (f_X10_fillLoads_L95 n a2 a3 x) := by
  intro n
  induction n with
  | zero => intro a2 a3; exact mS_none
  | succ n ih =>
    intro a2 a3
    rw [f_X10_fillLoads_L95]
    refine mS_steps (pc' := 98) (ls' := [.ref 0, mU, .int a2, .int a3]) (st' := [.int (16 : Int32), .int a3]) (mem' := (mk x y)) 2 rfl ?_
    refine mS_ic3 rfl (fun _ => ?_) (fun _ => ?_)
    · refine mS_steps (pc' := 119) (ls' := [.ref 0, mU, .int a2, .int a3]) (st' := [.int a2]) (mem' := (mk x y)) 1 rfl ?_
      exact mS_reti ⟨_, _, _, _, _, rfl, rfl⟩ rfl
    · refine mS_steps (pc' := 107) (ls' := [.ref 0, mU, .int a2, .int a3]) (st' := [.int a3, .ref 253, .int a2]) (mem' := (mk x y)) 4 rfl ?_
      refine mS_ald (b := 0) (n := 16) (z := (x.1 253 a3.toNatClampNeg)) rfl (by decide) rfl (by decide) rfl (fun _ => ?_)
      refine mS_steps (pc' := 95) (ls' := [.ref 0, mU, .int (if a2 < (x.1 253 a3.toNatClampNeg) then (x.1 253 a3.toNatClampNeg) else a2), .int (a3 + (1 : Int32))]) (st' := []) (mem' := (mk x y)) 4 rfl ?_
      exact ih (if a2 < (x.1 253 a3.toNatClampNeg) then (x.1 253 a3.toNatClampNeg) else a2) (a3 + (1 : Int32))
set_option maxRecDepth 20000 in
set_option maxHeartbeats 2000000 in
theorem f_X10_fillLoads_snd {fm : Value} {L : Nat} {xs : Nat → Int32} (x : mX) (y : mY) : mS fm L xs (fun r : (Int32 × mX) => (.int r.1, mk r.2 y)) pg_X10_fillLoads 0 (m_entry [.ref 0] 4) [] (mk x y) ((f_X10_fillLoads x)) := by
  unfold f_X10_fillLoads
  refine mS_steps (pc' := 0) (ls' := [.ref 0, mU, mU, mU]) (st' := []) (mem' := (mk x y)) 0 rfl ?_
  refine mS_steps (pc' := 4) (ls' := [.ref 0, mU, mU, mU]) (st' := [.ref 14]) (mem' := (mk x y)) 2 rfl ?_
  refine mS_bind (fun q1 hq1 => mS_call 61 1 [.ref 14] [] rfl rfl rfl ⟨_, _, _, rfl, rfl⟩ (Nat.le_of_ble_eq_true rfl) (Nat.le_of_ble_eq_true rfl) hq1 (f_X6_live_14_snd  x y) ?_)
  refine mS_steps (pc' := 10) (ls' := [.ref 0, .int q1, .int (0 : Int32), mU]) (st' := []) (mem' := (mk x y)) 3 rfl ?_
  refine f_X10_fillLoads_L10_snd q1 y _ ?_ mF (0 : Int32) x
  · intro x3
    refine mS_steps (pc' := 31) (ls' := [.ref 0, .int q1, .int (0 : Int32), mU]) (st' := []) (mem' := (mk x3 y)) 2 rfl ?_
    refine f_X10_fillLoads_L31_snd q1 y _ ?_ mF (0 : Int32) x3
    · intro x8
      refine mS_steps (pc' := 95) (ls' := [.ref 0, mU, .int (0 : Int32), .int (0 : Int32)]) (st' := []) (mem' := (mk x8 y)) 4 rfl ?_
      refine f_X10_fillLoads_L95_snd x8 y mF (0 : Int32) (0 : Int32)
def f_X10_load (p1 : Int32) (x : mX) : Option (Int32 × mX) := (if (f_X10_isLink p1 x) = 0 then (some ((-1 : Int32), x)) else ((f_X10_fillLoads x).bind fun q1 => (if m_in p1 16 = true then (some ((q1.2.1 253 p1.toNatClampNeg), q1.2)) else none)))
set_option maxRecDepth 20000 in
set_option maxHeartbeats 2000000 in
theorem f_X10_load_snd {fm : Value} {L : Nat} {xs : Nat → Int32} (p1 : Int32) (x : mX) (y : mY) : mS fm L xs (fun r : (Int32 × mX) => (.int r.1, mk r.2 y)) pg_X10_load 0 (m_entry [.ref 0, .int p1] 2) [] (mk x y) ((f_X10_load p1 x)) := by
  unfold f_X10_load
  refine mS_steps (pc' := 0) (ls' := [.ref 0, .int p1]) (st' := []) (mem' := (mk x y)) 0 rfl ?_
  refine mS_steps (pc' := 2) (ls' := [.ref 0, .int p1]) (st' := [.int p1, .ref 0]) (mem' := (mk x y)) 2 rfl ?_
  refine mS_call (q := (f_X10_isLink p1 x)) 94 2 [.ref 0, .int p1] [] rfl rfl rfl ⟨_, _, _, rfl, rfl⟩ (Nat.le_of_ble_eq_true rfl) (Nat.le_of_ble_eq_true rfl) rfl (f_X10_isLink_snd p1 x y) ?_
  refine mS_steps (pc' := 5) (ls' := [.ref 0, .int p1]) (st' := [.int (f_X10_isLink p1 x)]) (mem' := (mk x y)) 0 rfl ?_
  refine mS_if1 rfl (fun _ => ?_) (fun _ => ?_)
  · refine mS_steps (pc' := 9) (ls' := [.ref 0, .int p1]) (st' := [.int (-1 : Int32)]) (mem' := (mk x y)) 1 rfl ?_
    exact mS_reti ⟨_, _, _, _, _, rfl, rfl⟩ rfl
  · refine mS_steps (pc' := 11) (ls' := [.ref 0, .int p1]) (st' := [.ref 0]) (mem' := (mk x y)) 1 rfl ?_
    refine mS_bind (fun q1 hq1 => mS_call 238 1 [.ref 0] [] rfl rfl rfl ⟨_, _, _, rfl, rfl⟩ (Nat.le_of_ble_eq_true rfl) (Nat.le_of_ble_eq_true rfl) hq1 (f_X10_fillLoads_snd  x y) ?_)
    refine mS_steps (pc' := 20) (ls' := [.ref 0, .int p1]) (st' := [.int p1, .ref 253]) (mem' := (mk q1.2 y)) 4 rfl ?_
    refine mS_ald (b := 0) (n := 16) (z := (q1.2.1 253 p1.toNatClampNeg)) rfl (by decide) rfl (by decide) rfl (fun _ => ?_)
    exact mS_reti ⟨_, _, _, _, _, rfl, rfl⟩ rfl
def f_X11_laysLoads_L2 : Nat → Int32 → mY → (mY → Option mY) → Option mY
  | 0, _, _, _ => none
  | n + 1, a1, y, k21 => (if (16 : Int32) ≤ a1 then (k21 y) else (if m_in a1 16 = true then (m_let (m_ys y 310 a1.toNatClampNeg (0 : Int32)) fun y1 => (f_X11_laysLoads_L2 n (a1 + (1 : Int32)) y1 k21)) else none))
def f_X11_laysLoads_L63 : Nat → Int32 → mY → (mY → Option mY) → Option mY
  | 0, _, _, _ => none
  | n + 1, a3, y, k92 => (if (y.1 279 54) ≤ a3 then (k92 y) else (if m_in a3 32 = true then (if m_in (y.1 309 a3.toNatClampNeg) 16 = true then (if m_in (y.1 309 a3.toNatClampNeg) 16 = true then (m_let (m_ys y 310 (y.1 309 a3.toNatClampNeg).toNatClampNeg ((y.1 310 (y.1 309 a3.toNatClampNeg).toNatClampNeg) + (1 : Int32))) fun y5 => (f_X11_laysLoads_L63 n (a3 + (1 : Int32)) y5 k92)) else none) else none) else none))
def f_X11_laysLoads_L33 (a1 : Int32) : Nat → Int32 → mY → (mY → Option mY) → Option mY
  | 0, _, _, _ => none
  | n + 1, a2, y, k98 => (if (y.1 279 17) ≤ a2 then (k98 y) else ((f_X11_canSend a1 a2 y).bind fun q3 => (if q3 = 0 then (f_X11_laysLoads_L33 a1 n (a2 + (1 : Int32)) y k98) else ((f_X11_goes a1 a2 (0 : Int32) y).bind fun q4 => (f_X11_laysLoads_L63 mF (0 : Int32) q4.2 (fun y6 => (f_X11_laysLoads_L33 a1 n (a2 + (1 : Int32)) y6 k98)))))))
def f_X11_laysLoads_L23 : Nat → Int32 → mY → Option mY
  | 0, _, _ => none
  | n + 1, a1, y => (if (y.1 279 17) ≤ a1 then (some y) else (f_X11_laysLoads_L33 a1 mF (0 : Int32) y (fun y7 => (f_X11_laysLoads_L23 n (a1 + (1 : Int32)) y7))))
def f_X11_laysLoads (y : mY) : Option mY := (f_X11_laysLoads_L2 mF (0 : Int32) y (fun y2 => (f_X11_laysLoads_L23 mF (0 : Int32) y2)))
set_option maxRecDepth 20000 in
set_option maxHeartbeats 2000000 in
theorem f_X11_laysLoads_L2_snd {fm : Value} {L : Nat} {xs : Nat → Int32} (x : mX) (k21 : mY → Option mY) (hk21 : ∀ (z0 : mY), mS fm L xs (fun r : mY => (mU, mk x r)) pg_X11_laysLoads 21 [.ref 279, mU, mU, mU] [] (mk x z0) (k21 z0)) : ∀ (n : Nat) (a1 : Int32) (y : mY), mS fm L xs (fun r : mY => (mU, mk x r)) pg_X11_laysLoads 2 [.ref 279, .int a1, mU, mU] [] (mk x y) (f_X11_laysLoads_L2 n a1 y k21) := by
  intro n
  induction n with
  | zero => intro a1 y; exact mS_none
  | succ n ih =>
    intro a1 y
    rw [f_X11_laysLoads_L2]
    refine mS_steps (pc' := 5) (ls' := [.ref 279, .int a1, mU, mU]) (st' := [.int (16 : Int32), .int a1]) (mem' := (mk x y)) 2 rfl ?_
    refine mS_ic3 rfl (fun _ => ?_) (fun _ => ?_)
    · refine mS_forget [.ref 279, mU, mU, mU] ⟨Or.inr rfl, Or.inl rfl, Or.inl rfl, Or.inl rfl, trivial⟩ ?_
      exact hk21 y
    · refine mS_steps (pc' := 14) (ls' := [.ref 279, .int a1, mU, mU]) (st' := [.int (0 : Int32), .int a1, .ref 310]) (mem' := (mk x y)) 4 rfl ?_
      refine mS_ast0y (n := 16) rfl rfl (by decide) (fun _ => ?_)
      refine mS_lety (fun y1 => ?_)
      refine mS_steps (pc' := 2) (ls' := [.ref 279, .int (a1 + (1 : Int32)), mU, mU]) (st' := []) (mem' := (mk x y1)) 2 rfl ?_
      exact ih (a1 + (1 : Int32)) y1
set_option maxRecDepth 20000 in
set_option maxHeartbeats 2000000 in
theorem f_X11_laysLoads_L63_snd {fm : Value} {L : Nat} {xs : Nat → Int32} (a1 : Int32) (a2 : Int32) (x : mX) (k92 : mY → Option mY) (hk92 : ∀ (z0 : mY), mS fm L xs (fun r : mY => (mU, mk x r)) pg_X11_laysLoads 92 [.ref 279, .int a1, .int a2, mU] [] (mk x z0) (k92 z0)) : ∀ (n : Nat) (a3 : Int32) (y : mY), mS fm L xs (fun r : mY => (mU, mk x r)) pg_X11_laysLoads 63 [.ref 279, .int a1, .int a2, .int a3] [] (mk x y) (f_X11_laysLoads_L63 n a3 y k92) := by
  intro n
  induction n with
  | zero => intro a3 y; exact mS_none
  | succ n ih =>
    intro a3 y
    rw [f_X11_laysLoads_L63]
    refine mS_steps (pc' := 68) (ls' := [.ref 279, .int a1, .int a2, .int a3]) (st' := [.int (y.1 279 54), .int a3]) (mem' := (mk x y)) 3 rfl ?_
    refine mS_ic3 rfl (fun _ => ?_) (fun _ => ?_)
    · refine mS_forget [.ref 279, .int a1, .int a2, mU] ⟨Or.inr rfl, Or.inr rfl, Or.inr rfl, Or.inl rfl, trivial⟩ ?_
      exact hk92 y
    · refine mS_steps (pc' := 80) (ls' := [.ref 279, .int a1, .int a2, .int a3]) (st' := [.int a3, .ref 309, .ref 310]) (mem' := (mk x y)) 5 rfl ?_
      refine mS_ald (b := 0) (n := 32) (z := (y.1 309 a3.toNatClampNeg)) rfl (by decide) rfl (by decide) rfl (fun _ => ?_)
      refine mS_steps (pc' := 82) (ls' := [.ref 279, .int a1, .int a2, .int a3]) (st' := [.int (y.1 309 a3.toNatClampNeg), .ref 310, .int (y.1 309 a3.toNatClampNeg), .ref 310]) (mem' := (mk x y)) 1 rfl ?_
      refine mS_ald (b := 0) (n := 16) (z := (y.1 310 (y.1 309 a3.toNatClampNeg).toNatClampNeg)) rfl (by decide) rfl (by decide) rfl (fun _ => ?_)
      refine mS_steps (pc' := 85) (ls' := [.ref 279, .int a1, .int a2, .int a3]) (st' := [.int ((y.1 310 (y.1 309 a3.toNatClampNeg).toNatClampNeg) + (1 : Int32)), .int (y.1 309 a3.toNatClampNeg), .ref 310]) (mem' := (mk x y)) 2 rfl ?_
      refine mS_ast0y (n := 16) rfl rfl (by decide) (fun _ => ?_)
      refine mS_lety (fun y5 => ?_)
      refine mS_steps (pc' := 63) (ls' := [.ref 279, .int a1, .int a2, .int (a3 + (1 : Int32))]) (st' := []) (mem' := (mk x y5)) 2 rfl ?_
      exact ih (a3 + (1 : Int32)) y5
set_option maxRecDepth 20000 in
set_option maxHeartbeats 2000000 in
theorem f_X11_laysLoads_L33_snd {fm : Value} {L : Nat} {xs : Nat → Int32} (a1 : Int32) (x : mX) (k98 : mY → Option mY) (hk98 : ∀ (z0 : mY), mS fm L xs (fun r : mY => (mU, mk x r)) pg_X11_laysLoads 98 [.ref 279, .int a1, mU, mU] [] (mk x z0) (k98 z0)) : ∀ (n : Nat) (a2 : Int32) (y : mY), mS fm L xs (fun r : mY => (mU, mk x r)) pg_X11_laysLoads 33 [.ref 279, .int a1, .int a2, mU] [] (mk x y) (f_X11_laysLoads_L33 a1 n a2 y k98) := by
  intro n
  induction n with
  | zero => intro a2 y; exact mS_none
  | succ n ih =>
    intro a2 y
    rw [f_X11_laysLoads_L33]
    refine mS_steps (pc' := 38) (ls' := [.ref 279, .int a1, .int a2, mU]) (st' := [.int (y.1 279 17), .int a2]) (mem' := (mk x y)) 3 rfl ?_
    refine mS_ic3 rfl (fun _ => ?_) (fun _ => ?_)
    · refine mS_forget [.ref 279, .int a1, mU, mU] ⟨Or.inr rfl, Or.inr rfl, Or.inl rfl, Or.inl rfl, trivial⟩ ?_
      exact hk98 y
    · refine mS_steps (pc' := 44) (ls' := [.ref 279, .int a1, .int a2, mU]) (st' := [.int a2, .int a1, .ref 279]) (mem' := (mk x y)) 3 rfl ?_
      refine mS_bind (fun q3 hq3 => mS_call 141 3 [.ref 279, .int a1, .int a2] [] rfl rfl rfl ⟨_, _, _, rfl, rfl⟩ (Nat.le_of_ble_eq_true rfl) (Nat.le_of_ble_eq_true rfl) hq3 (f_X11_canSend_snd a1 a2 y x) ?_)
      refine mS_steps (pc' := 47) (ls' := [.ref 279, .int a1, .int a2, mU]) (st' := [.int q3]) (mem' := (mk x y)) 0 rfl ?_
      refine mS_if1 rfl (fun _ => ?_) (fun _ => ?_)
      · refine mS_steps (pc' := 33) (ls' := [.ref 279, .int a1, .int (a2 + (1 : Int32)), mU]) (st' := []) (mem' := (mk x y)) 3 rfl ?_
        exact ih (a2 + (1 : Int32)) y
      · refine mS_steps (pc' := 57) (ls' := [.ref 279, .int a1, .int a2, mU]) (st' := [.int (0 : Int32), .int a2, .int a1, .ref 279]) (mem' := (mk x y)) 4 rfl ?_
        refine mS_bind (fun q4 hq4 => mS_call 159 4 [.ref 279, .int a1, .int a2, .int (0 : Int32)] [] rfl rfl rfl ⟨_, _, _, rfl, rfl⟩ (Nat.le_of_ble_eq_true rfl) (Nat.le_of_ble_eq_true rfl) hq4 (f_X11_goes_snd a1 a2 (0 : Int32) y x) ?_)
        refine mS_steps (pc' := 63) (ls' := [.ref 279, .int a1, .int a2, .int (0 : Int32)]) (st' := []) (mem' := (mk x q4.2)) 3 rfl ?_
        refine f_X11_laysLoads_L63_snd a1 a2 x _ ?_ mF (0 : Int32) q4.2
        · intro y6
          refine mS_steps (pc' := 33) (ls' := [.ref 279, .int a1, .int (a2 + (1 : Int32)), mU]) (st' := []) (mem' := (mk x y6)) 2 rfl ?_
          exact ih (a2 + (1 : Int32)) y6
set_option maxRecDepth 20000 in
set_option maxHeartbeats 2000000 in
theorem f_X11_laysLoads_L23_snd {fm : Value} {L : Nat} {xs : Nat → Int32} (x : mX) : ∀ (n : Nat) (a1 : Int32) (y : mY), mS fm L xs (fun r : mY => (mU, mk x r)) pg_X11_laysLoads 23 [.ref 279, .int a1, mU, mU] [] (mk x y) (f_X11_laysLoads_L23 n a1 y) := by
  intro n
  induction n with
  | zero => intro a1 y; exact mS_none
  | succ n ih =>
    intro a1 y
    rw [f_X11_laysLoads_L23]
    refine mS_steps (pc' := 28) (ls' := [.ref 279, .int a1, mU, mU]) (st' := [.int (y.1 279 17), .int a1]) (mem' := (mk x y)) 3 rfl ?_
    refine mS_ic3 rfl (fun _ => ?_) (fun _ => ?_)
    · exact mS_retv ⟨_, _, _, _, _, rfl⟩ rfl
    · refine mS_steps (pc' := 33) (ls' := [.ref 279, .int a1, .int (0 : Int32), mU]) (st' := []) (mem' := (mk x y)) 2 rfl ?_
      refine f_X11_laysLoads_L33_snd a1 x _ ?_ mF (0 : Int32) y
      · intro y7
        refine mS_steps (pc' := 23) (ls' := [.ref 279, .int (a1 + (1 : Int32)), mU, mU]) (st' := []) (mem' := (mk x y7)) 2 rfl ?_
        exact ih (a1 + (1 : Int32)) y7
set_option maxRecDepth 20000 in
set_option maxHeartbeats 2000000 in
theorem f_X11_laysLoads_snd {fm : Value} {L : Nat} {xs : Nat → Int32} (y : mY) (x : mX) : mS fm L xs (fun r : mY => (mU, mk x r)) pg_X11_laysLoads 0 (m_entry [.ref 279] 4) [] (mk x y) ((f_X11_laysLoads y)) := by
  unfold f_X11_laysLoads
  refine mS_steps (pc' := 0) (ls' := [.ref 279, mU, mU, mU]) (st' := []) (mem' := (mk x y)) 0 rfl ?_
  refine mS_steps (pc' := 2) (ls' := [.ref 279, .int (0 : Int32), mU, mU]) (st' := []) (mem' := (mk x y)) 2 rfl ?_
  refine f_X11_laysLoads_L2_snd x _ ?_ mF (0 : Int32) y
  · intro y2
    refine mS_steps (pc' := 23) (ls' := [.ref 279, .int (0 : Int32), mU, mU]) (st' := []) (mem' := (mk x y2)) 2 rfl ?_
    refine f_X11_laysLoads_L23_snd x mF (0 : Int32) y2
def f_X11_load (p1 : Int32) (y : mY) : Option (Int32 × mY) := ((f_X11_isLink p1 y).bind fun q1 => (if q1 = 0 then (some ((-1 : Int32), y)) else ((f_X11_laysLoads y).bind fun q2 => (if m_in p1 16 = true then (some ((q2.1 310 p1.toNatClampNeg), q2)) else none))))
set_option maxRecDepth 20000 in
set_option maxHeartbeats 2000000 in
theorem f_X11_load_snd {fm : Value} {L : Nat} {xs : Nat → Int32} (p1 : Int32) (y : mY) (x : mX) : mS fm L xs (fun r : (Int32 × mY) => (.int r.1, mk x r.2)) pg_X11_load 0 (m_entry [.ref 279, .int p1] 2) [] (mk x y) ((f_X11_load p1 y)) := by
  unfold f_X11_load
  refine mS_steps (pc' := 0) (ls' := [.ref 279, .int p1]) (st' := []) (mem' := (mk x y)) 0 rfl ?_
  refine mS_steps (pc' := 2) (ls' := [.ref 279, .int p1]) (st' := [.int p1, .ref 279]) (mem' := (mk x y)) 2 rfl ?_
  refine mS_bind (fun q1 hq1 => mS_call 97 2 [.ref 279, .int p1] [] rfl rfl rfl ⟨_, _, _, rfl, rfl⟩ (Nat.le_of_ble_eq_true rfl) (Nat.le_of_ble_eq_true rfl) hq1 (f_X11_isLink_snd p1 y x) ?_)
  refine mS_steps (pc' := 5) (ls' := [.ref 279, .int p1]) (st' := [.int q1]) (mem' := (mk x y)) 0 rfl ?_
  refine mS_if1 rfl (fun _ => ?_) (fun _ => ?_)
  · refine mS_steps (pc' := 9) (ls' := [.ref 279, .int p1]) (st' := [.int (-1 : Int32)]) (mem' := (mk x y)) 1 rfl ?_
    exact mS_reti ⟨_, _, _, _, _, rfl, rfl⟩ rfl
  · refine mS_steps (pc' := 11) (ls' := [.ref 279, .int p1]) (st' := [.ref 279]) (mem' := (mk x y)) 1 rfl ?_
    refine mS_bind (fun q2 hq2 => mS_call 240 1 [.ref 279] [] rfl rfl rfl ⟨_, _, _, rfl, rfl⟩ (Nat.le_of_ble_eq_true rfl) (Nat.le_of_ble_eq_true rfl) hq2 (f_X11_laysLoads_snd  y x) ?_)
    refine mS_steps (pc' := 19) (ls' := [.ref 279, .int p1]) (st' := [.int p1, .ref 310]) (mem' := (mk x q2)) 3 rfl ?_
    refine mS_ald (b := 0) (n := 16) (z := (q2.1 310 p1.toNatClampNeg)) rfl (by decide) rfl (by decide) rfl (fun _ => ?_)
    exact mS_reti ⟨_, _, _, _, _, rfl, rfl⟩ rfl
def f_X4_better (p1 : Int32) (p2 : Int32) (p3 : Int32) (x : mX) : Option (Int32 × mX) := (if m_in p1 8 = true then (if m_in p2 8 = true then (if ((x.1 255 p1.toNatClampNeg) + p3) < (x.1 255 p2.toNatClampNeg) then (if m_in p1 8 = true then (if m_in p2 8 = true then (m_let (m_xs x 255 p2.toNatClampNeg ((x.1 255 p1.toNatClampNeg) + p3)) fun x1 => (some ((1 : Int32), x1))) else none) else none) else (some ((0 : Int32), x))) else none) else none)
set_option maxRecDepth 20000 in
set_option maxHeartbeats 2000000 in
theorem f_X4_better_snd {fm : Value} {L : Nat} {xs : Nat → Int32} (p1 : Int32) (p2 : Int32) (p3 : Int32) (x : mX) (y : mY) : mS fm L xs (fun r : (Int32 × mX) => (.int r.1, mk r.2 y)) pg_X4_better 0 (m_entry [.ref 254, .int p1, .int p2, .int p3] 4) [] (mk x y) ((f_X4_better p1 p2 p3 x)) := by
  unfold f_X4_better
  refine mS_steps (pc' := 0) (ls' := [.ref 254, .int p1, .int p2, .int p3]) (st' := []) (mem' := (mk x y)) 0 rfl ?_
  refine mS_steps (pc' := 5) (ls' := [.ref 254, .int p1, .int p2, .int p3]) (st' := [.int p1, .ref 255]) (mem' := (mk x y)) 3 rfl ?_
  refine mS_ald (b := 0) (n := 8) (z := (x.1 255 p1.toNatClampNeg)) rfl (by decide) rfl (by decide) rfl (fun _ => ?_)
  refine mS_steps (pc' := 13) (ls' := [.ref 254, .int p1, .int p2, .int p3]) (st' := [.int p2, .ref 255, .int ((x.1 255 p1.toNatClampNeg) + p3)]) (mem' := (mk x y)) 5 rfl ?_
  refine mS_ald (b := 0) (n := 8) (z := (x.1 255 p2.toNatClampNeg)) rfl (by decide) rfl (by decide) rfl (fun _ => ?_)
  refine mS_ic2 rfl (fun _ => ?_) (fun _ => ?_)
  · refine mS_steps (pc' := 29) (ls' := [.ref 254, .int p1, .int p2, .int p3]) (st' := [.int p1, .ref 255, .int p2, .ref 255]) (mem' := (mk x y)) 6 rfl ?_
    refine mS_ald (b := 0) (n := 8) (z := (x.1 255 p1.toNatClampNeg)) rfl (by decide) rfl (by decide) rfl (fun _ => ?_)
    refine mS_steps (pc' := 32) (ls' := [.ref 254, .int p1, .int p2, .int p3]) (st' := [.int ((x.1 255 p1.toNatClampNeg) + p3), .int p2, .ref 255]) (mem' := (mk x y)) 2 rfl ?_
    refine mS_ast0x (n := 8) rfl rfl (by decide) (fun _ => ?_)
    refine mS_letx (fun x1 => ?_)
    refine mS_steps (pc' := 34) (ls' := [.ref 254, .int p1, .int p2, .int p3]) (st' := [.int (1 : Int32)]) (mem' := (mk x1 y)) 1 rfl ?_
    exact mS_reti ⟨_, _, _, _, _, rfl, (by decide)⟩ rfl
  · refine mS_steps (pc' := 18) (ls' := [.ref 254, .int p1, .int p2, .int p3]) (st' := [.int (0 : Int32)]) (mem' := (mk x y)) 1 rfl ?_
    exact mS_reti ⟨_, _, _, _, _, rfl, (by decide)⟩ rfl
def f_X4_cheapest_L3 : Nat → Int32 → mX → (mX → Option (Int32 × mX)) → Option (Int32 × mX)
  | 0, _, _, _ => none
  | n + 1, a6, x, k25 => (if (8 : Int32) ≤ a6 then (k25 x) else (if m_in a6 8 = true then (m_let (m_xs x 255 a6.toNatClampNeg (1000000 : Int32)) fun x1 => (f_X4_cheapest_L3 n (a6 + (1 : Int32)) x1 k25)) else none))
def f_X4_cheapest_L56 (a2 : Int32) (a5 : Int32) : Nat → Int32 → Int32 → mX → (Int32 → mX → Option (Int32 × mX)) → Option (Int32 × mX)
  | 0, _, _, _, _ => none
  | n + 1, a6, a8, x, k193 => (if (16 : Int32) ≤ a8 then (k193 a6 x) else (if (x.1 14 1) ≤ a8 then (f_X4_cheapest_L56 a2 a5 n a6 (a8 + (1 : Int32)) x k193) else (if (f_X10_has a2 a8) = 0 then (f_X4_cheapest_L56 a2 a5 n a6 (a8 + (1 : Int32)) x k193) else (if m_in a8 16 = true then (if (f_X10_has a5 (x.1 15 a8.toNatClampNeg)) = 0 then (f_X4_cheapest_L56 a2 a5 n a6 (a8 + (1 : Int32)) x k193) else (if m_in a8 16 = true then (if (f_X10_has a5 (x.1 16 a8.toNatClampNeg)) = 0 then (f_X4_cheapest_L56 a2 a5 n a6 (a8 + (1 : Int32)) x k193) else (if m_in a8 16 = true then (if m_in a8 16 = true then (if m_in a8 16 = true then ((f_X4_better (x.1 15 a8.toNatClampNeg) (x.1 16 a8.toNatClampNeg) (x.1 17 a8.toNatClampNeg) x).bind fun q4 => (if m_in a8 16 = true then (if m_in a8 16 = true then (if m_in a8 16 = true then ((f_X4_better (q4.2.1 16 a8.toNatClampNeg) (q4.2.1 15 a8.toNatClampNeg) (q4.2.1 17 a8.toNatClampNeg) q4.2).bind fun q5 => (if a6 = 0 then (if q4.1 = 0 then (if q5.1 = 0 then (f_X4_cheapest_L56 a2 a5 n (0 : Int32) (a8 + (1 : Int32)) q5.2 k193) else (f_X4_cheapest_L56 a2 a5 n (1 : Int32) (a8 + (1 : Int32)) q5.2 k193)) else (f_X4_cheapest_L56 a2 a5 n (1 : Int32) (a8 + (1 : Int32)) q5.2 k193)) else (f_X4_cheapest_L56 a2 a5 n (1 : Int32) (a8 + (1 : Int32)) q5.2 k193))) else none) else none) else none)) else none) else none) else none)) else none)) else none))))
def f_X4_cheapest_L38 (a2 : Int32) (a4 : Int32) (a5 : Int32) : Nat → Int32 → Int32 → mX → Option (Int32 × mX)
  | 0, _, _, _ => none
  | n + 1, a6, a7, x => (if (8 : Int32) ≤ a7 then (if m_in a4 8 = true then (some ((x.1 255 a4.toNatClampNeg), x)) else none) else (if a6 = 0 then (if m_in a4 8 = true then (some ((x.1 255 a4.toNatClampNeg), x)) else none) else (f_X4_cheapest_L56 a2 a5 mF (0 : Int32) (0 : Int32) x (fun v6 x7 => (f_X4_cheapest_L38 a2 a4 a5 n v6 (a7 + (1 : Int32)) x7)))))
def f_X4_cheapest (p2 : Int32) (p3 : Int32) (p4 : Int32) (p5 : Int32) (x : mX) : Option (Int32 × mX) := (f_X4_cheapest_L3 mF (0 : Int32) x (fun x2 => (if m_in p3 8 = true then (m_let (m_xs x2 255 p3.toNatClampNeg (0 : Int32)) fun x3 => (f_X4_cheapest_L38 p2 p4 p5 mF (1 : Int32) (0 : Int32) x3)) else none)))
set_option maxRecDepth 20000 in
set_option maxHeartbeats 2000000 in
theorem f_X4_cheapest_L3_snd {fm : Value} {L : Nat} {xs : Nat → Int32} (a2 : Int32) (a3 : Int32) (a4 : Int32) (a5 : Int32) (y : mY) (k25 : mX → Option (Int32 × mX)) (hk25 : ∀ (z0 : mX), mS fm L xs (fun r : (Int32 × mX) => (.int r.1, mk r.2 y)) pg_X4_cheapest 25 [.ref 254, .ref 14, .int a2, .int a3, .int a4, .int a5, mU, mU, mU, mU, mU] [] (mk z0 y) (k25 z0)) : ∀ (n : Nat) (a6 : Int32) (x : mX), mS fm L xs (fun r : (Int32 × mX) => (.int r.1, mk r.2 y)) pg_X4_cheapest 3 [.ref 254, .ref 14, .int a2, .int a3, .int a4, .int a5, .int a6, mU, mU, mU, mU] [] (mk x y) (f_X4_cheapest_L3 n a6 x k25) := by
  intro n
  induction n with
  | zero => intro a6 x; exact mS_none
  | succ n ih =>
    intro a6 x
    rw [f_X4_cheapest_L3]
    refine mS_steps (pc' := 7) (ls' := [.ref 254, .ref 14, .int a2, .int a3, .int a4, .int a5, .int a6, mU, mU, mU, mU]) (st' := [.int (8 : Int32), .int a6]) (mem' := (mk x y)) 2 rfl ?_
    refine mS_ic3 rfl (fun _ => ?_) (fun _ => ?_)
    · refine mS_forget [.ref 254, .ref 14, .int a2, .int a3, .int a4, .int a5, mU, mU, mU, mU, mU] ⟨Or.inr rfl, Or.inr rfl, Or.inr rfl, Or.inr rfl, Or.inr rfl, Or.inr rfl, Or.inl rfl, Or.inl rfl, Or.inl rfl, Or.inl rfl, Or.inl rfl, trivial⟩ ?_
      exact hk25 x
    · refine mS_steps (pc' := 18) (ls' := [.ref 254, .ref 14, .int a2, .int a3, .int a4, .int a5, .int a6, mU, mU, mU, mU]) (st' := [.int (1000000 : Int32), .int a6, .ref 255]) (mem' := (mk x y)) 4 rfl ?_
      refine mS_ast0x (n := 8) rfl rfl (by decide) (fun _ => ?_)
      refine mS_letx (fun x1 => ?_)
      refine mS_steps (pc' := 3) (ls' := [.ref 254, .ref 14, .int a2, .int a3, .int a4, .int a5, .int (a6 + (1 : Int32)), mU, mU, mU, mU]) (st' := []) (mem' := (mk x1 y)) 2 rfl ?_
      exact ih (a6 + (1 : Int32)) x1
set_option maxRecDepth 20000 in
set_option maxHeartbeats 2000000 in
theorem f_X4_cheapest_L56_snd {fm : Value} {L : Nat} {xs : Nat → Int32} (a2 : Int32) (a4 : Int32) (a5 : Int32) (a7 : Int32) (y : mY) (k193 : Int32 → mX → Option (Int32 × mX)) (hk193 : ∀ (b6 : Int32) (z0 : mX), mS fm L xs (fun r : (Int32 × mX) => (.int r.1, mk r.2 y)) pg_X4_cheapest 193 [.ref 254, .ref 14, .int a2, mU, .int a4, .int a5, .int b6, .int a7, mU, mU, mU] [] (mk z0 y) (k193 b6 z0)) : ∀ (n : Nat) (a6 : Int32) (a8 : Int32) (x : mX), mS fm L xs (fun r : (Int32 × mX) => (.int r.1, mk r.2 y)) pg_X4_cheapest 56 [.ref 254, .ref 14, .int a2, mU, .int a4, .int a5, .int a6, .int a7, .int a8, mU, mU] [] (mk x y) (f_X4_cheapest_L56 a2 a5 n a6 a8 x k193) := by
  intro n
  induction n with
  | zero => intro a6 a8 x; exact mS_none
  | succ n ih =>
    intro a6 a8 x
    rw [f_X4_cheapest_L56]
    refine mS_steps (pc' := 60) (ls' := [.ref 254, .ref 14, .int a2, mU, .int a4, .int a5, .int a6, .int a7, .int a8, mU, mU]) (st' := [.int (16 : Int32), .int a8]) (mem' := (mk x y)) 2 rfl ?_
    refine mS_ic3 rfl (fun _ => ?_) (fun _ => ?_)
    · refine mS_forget [.ref 254, .ref 14, .int a2, mU, .int a4, .int a5, .int a6, .int a7, mU, mU, mU] ⟨Or.inr rfl, Or.inr rfl, Or.inr rfl, Or.inl rfl, Or.inr rfl, Or.inr rfl, Or.inr rfl, Or.inr rfl, Or.inl rfl, Or.inl rfl, Or.inl rfl, trivial⟩ ?_
      exact hk193 a6 x
    · refine mS_steps (pc' := 69) (ls' := [.ref 254, .ref 14, .int a2, mU, .int a4, .int a5, .int a6, .int a7, .int a8, mU, mU]) (st' := [.int (x.1 14 1), .int a8]) (mem' := (mk x y)) 3 rfl ?_
      refine mS_ic3 rfl (fun _ => ?_) (fun _ => ?_)
      · refine mS_steps (pc' := 56) (ls' := [.ref 254, .ref 14, .int a2, mU, .int a4, .int a5, .int a6, .int a7, .int (a8 + (1 : Int32)), mU, mU]) (st' := []) (mem' := (mk x y)) 2 rfl ?_
        exact ih a6 (a8 + (1 : Int32)) x
      · refine mS_steps (pc' := 75) (ls' := [.ref 254, .ref 14, .int a2, mU, .int a4, .int a5, .int a6, .int a7, .int a8, mU, mU]) (st' := [.int a8, .int a2]) (mem' := (mk x y)) 2 rfl ?_
        refine mS_call (q := (f_X10_has a2 a8)) 57 2 [.int a2, .int a8] [] rfl rfl rfl ⟨_, _, _, rfl, rfl⟩ (Nat.le_of_ble_eq_true rfl) (Nat.le_of_ble_eq_true rfl) rfl (f_X10_has_snd a2 a8 (mk x y)) ?_
        refine mS_steps (pc' := 78) (ls' := [.ref 254, .ref 14, .int a2, mU, .int a4, .int a5, .int a6, .int a7, .int a8, mU, mU]) (st' := [.int (f_X10_has a2 a8)]) (mem' := (mk x y)) 0 rfl ?_
        refine mS_if0 rfl (fun _ => ?_) (fun _ => ?_)
        · refine mS_steps (pc' := 56) (ls' := [.ref 254, .ref 14, .int a2, mU, .int a4, .int a5, .int a6, .int a7, .int (a8 + (1 : Int32)), mU, mU]) (st' := []) (mem' := (mk x y)) 2 rfl ?_
          exact ih a6 (a8 + (1 : Int32)) x
        · refine mS_steps (pc' := 89) (ls' := [.ref 254, .ref 14, .int a2, mU, .int a4, .int a5, .int a6, .int a7, .int a8, mU, mU]) (st' := [.int a8, .ref 15, .int a5]) (mem' := (mk x y)) 4 rfl ?_
          refine mS_ald (b := 0) (n := 16) (z := (x.1 15 a8.toNatClampNeg)) rfl (by decide) rfl (by decide) rfl (fun _ => ?_)
          refine mS_call (q := (f_X10_has a5 (x.1 15 a8.toNatClampNeg))) 57 2 [.int a5, .int (x.1 15 a8.toNatClampNeg)] [] rfl rfl rfl ⟨_, _, _, rfl, rfl⟩ (Nat.le_of_ble_eq_true rfl) (Nat.le_of_ble_eq_true rfl) rfl (f_X10_has_snd a5 (x.1 15 a8.toNatClampNeg) (mk x y)) ?_
          refine mS_steps (pc' := 93) (ls' := [.ref 254, .ref 14, .int a2, mU, .int a4, .int a5, .int a6, .int a7, .int a8, mU, mU]) (st' := [.int (f_X10_has a5 (x.1 15 a8.toNatClampNeg))]) (mem' := (mk x y)) 0 rfl ?_
          refine mS_if0 rfl (fun _ => ?_) (fun _ => ?_)
          · refine mS_steps (pc' := 56) (ls' := [.ref 254, .ref 14, .int a2, mU, .int a4, .int a5, .int a6, .int a7, .int (a8 + (1 : Int32)), mU, mU]) (st' := []) (mem' := (mk x y)) 2 rfl ?_
            exact ih a6 (a8 + (1 : Int32)) x
          · refine mS_steps (pc' := 104) (ls' := [.ref 254, .ref 14, .int a2, mU, .int a4, .int a5, .int a6, .int a7, .int a8, mU, mU]) (st' := [.int a8, .ref 16, .int a5]) (mem' := (mk x y)) 4 rfl ?_
            refine mS_ald (b := 0) (n := 16) (z := (x.1 16 a8.toNatClampNeg)) rfl (by decide) rfl (by decide) rfl (fun _ => ?_)
            refine mS_call (q := (f_X10_has a5 (x.1 16 a8.toNatClampNeg))) 57 2 [.int a5, .int (x.1 16 a8.toNatClampNeg)] [] rfl rfl rfl ⟨_, _, _, rfl, rfl⟩ (Nat.le_of_ble_eq_true rfl) (Nat.le_of_ble_eq_true rfl) rfl (f_X10_has_snd a5 (x.1 16 a8.toNatClampNeg) (mk x y)) ?_
            refine mS_steps (pc' := 108) (ls' := [.ref 254, .ref 14, .int a2, mU, .int a4, .int a5, .int a6, .int a7, .int a8, mU, mU]) (st' := [.int (f_X10_has a5 (x.1 16 a8.toNatClampNeg))]) (mem' := (mk x y)) 0 rfl ?_
            refine mS_if0 rfl (fun _ => ?_) (fun _ => ?_)
            · refine mS_steps (pc' := 56) (ls' := [.ref 254, .ref 14, .int a2, mU, .int a4, .int a5, .int a6, .int a7, .int (a8 + (1 : Int32)), mU, mU]) (st' := []) (mem' := (mk x y)) 2 rfl ?_
              exact ih a6 (a8 + (1 : Int32)) x
            · refine mS_steps (pc' := 118) (ls' := [.ref 254, .ref 14, .int a2, mU, .int a4, .int a5, .int a6, .int a7, .int a8, mU, mU]) (st' := [.int a8, .ref 15, .ref 254]) (mem' := (mk x y)) 4 rfl ?_
              refine mS_ald (b := 0) (n := 16) (z := (x.1 15 a8.toNatClampNeg)) rfl (by decide) rfl (by decide) rfl (fun _ => ?_)
              refine mS_steps (pc' := 125) (ls' := [.ref 254, .ref 14, .int a2, mU, .int a4, .int a5, .int a6, .int a7, .int a8, mU, mU]) (st' := [.int a8, .ref 16, .int (x.1 15 a8.toNatClampNeg), .ref 254]) (mem' := (mk x y)) 3 rfl ?_
              refine mS_ald (b := 0) (n := 16) (z := (x.1 16 a8.toNatClampNeg)) rfl (by decide) rfl (by decide) rfl (fun _ => ?_)
              refine mS_steps (pc' := 132) (ls' := [.ref 254, .ref 14, .int a2, mU, .int a4, .int a5, .int a6, .int a7, .int a8, mU, mU]) (st' := [.int a8, .ref 17, .int (x.1 16 a8.toNatClampNeg), .int (x.1 15 a8.toNatClampNeg), .ref 254]) (mem' := (mk x y)) 3 rfl ?_
              refine mS_ald (b := 0) (n := 16) (z := (x.1 17 a8.toNatClampNeg)) rfl (by decide) rfl (by decide) rfl (fun _ => ?_)
              refine mS_bind (fun q4 hq4 => mS_call 242 4 [.ref 254, .int (x.1 15 a8.toNatClampNeg), .int (x.1 16 a8.toNatClampNeg), .int (x.1 17 a8.toNatClampNeg)] [] rfl rfl rfl ⟨_, _, _, rfl, rfl⟩ (Nat.le_of_ble_eq_true rfl) (Nat.le_of_ble_eq_true rfl) hq4 (f_X4_better_snd (x.1 15 a8.toNatClampNeg) (x.1 16 a8.toNatClampNeg) (x.1 17 a8.toNatClampNeg) x y) ?_)
              refine mS_steps (pc' := 145) (ls' := [.ref 254, .ref 14, .int a2, mU, .int a4, .int a5, .int a6, .int a7, .int a8, .int q4.1, mU]) (st' := [.int a8, .ref 16, .ref 254]) (mem' := (mk q4.2 y)) 5 rfl ?_
              refine mS_ald (b := 0) (n := 16) (z := (q4.2.1 16 a8.toNatClampNeg)) rfl (by decide) rfl (by decide) rfl (fun _ => ?_)
              refine mS_steps (pc' := 152) (ls' := [.ref 254, .ref 14, .int a2, mU, .int a4, .int a5, .int a6, .int a7, .int a8, .int q4.1, mU]) (st' := [.int a8, .ref 15, .int (q4.2.1 16 a8.toNatClampNeg), .ref 254]) (mem' := (mk q4.2 y)) 3 rfl ?_
              refine mS_ald (b := 0) (n := 16) (z := (q4.2.1 15 a8.toNatClampNeg)) rfl (by decide) rfl (by decide) rfl (fun _ => ?_)
              refine mS_steps (pc' := 159) (ls' := [.ref 254, .ref 14, .int a2, mU, .int a4, .int a5, .int a6, .int a7, .int a8, .int q4.1, mU]) (st' := [.int a8, .ref 17, .int (q4.2.1 15 a8.toNatClampNeg), .int (q4.2.1 16 a8.toNatClampNeg), .ref 254]) (mem' := (mk q4.2 y)) 3 rfl ?_
              refine mS_ald (b := 0) (n := 16) (z := (q4.2.1 17 a8.toNatClampNeg)) rfl (by decide) rfl (by decide) rfl (fun _ => ?_)
              refine mS_bind (fun q5 hq5 => mS_call 242 4 [.ref 254, .int (q4.2.1 16 a8.toNatClampNeg), .int (q4.2.1 15 a8.toNatClampNeg), .int (q4.2.1 17 a8.toNatClampNeg)] [] rfl rfl rfl ⟨_, _, _, rfl, rfl⟩ (Nat.le_of_ble_eq_true rfl) (Nat.le_of_ble_eq_true rfl) hq5 (f_X4_better_snd (q4.2.1 16 a8.toNatClampNeg) (q4.2.1 15 a8.toNatClampNeg) (q4.2.1 17 a8.toNatClampNeg) q4.2 y) ?_)
              refine mS_steps (pc' := 167) (ls' := [.ref 254, .ref 14, .int a2, mU, .int a4, .int a5, .int a6, .int a7, .int a8, .int q4.1, .int q5.1]) (st' := [.int a6]) (mem' := (mk q5.2 y)) 2 rfl ?_
              refine mS_if1 rfl (fun _ => ?_) (fun _ => ?_)
              · refine mS_steps (pc' := 172) (ls' := [.ref 254, .ref 14, .int a2, mU, .int a4, .int a5, .int a6, .int a7, .int a8, .int q4.1, .int q5.1]) (st' := [.int q4.1]) (mem' := (mk q5.2 y)) 1 rfl ?_
                refine mS_if1 rfl (fun _ => ?_) (fun _ => ?_)
                · refine mS_steps (pc' := 177) (ls' := [.ref 254, .ref 14, .int a2, mU, .int a4, .int a5, .int a6, .int a7, .int a8, .int q4.1, .int q5.1]) (st' := [.int q5.1]) (mem' := (mk q5.2 y)) 1 rfl ?_
                  refine mS_if0 rfl (fun _ => ?_) (fun _ => ?_)
                  · refine mS_steps (pc' := 56) (ls' := [.ref 254, .ref 14, .int a2, mU, .int a4, .int a5, .int (0 : Int32), .int a7, .int (a8 + (1 : Int32)), .int q4.1, .int q5.1]) (st' := []) (mem' := (mk q5.2 y)) 4 rfl ?_
                    refine mS_forget [.ref 254, .ref 14, .int a2, mU, .int a4, .int a5, .int (0 : Int32), .int a7, .int (a8 + (1 : Int32)), mU, mU] ⟨Or.inr rfl, Or.inr rfl, Or.inr rfl, Or.inl rfl, Or.inr rfl, Or.inr rfl, Or.inr rfl, Or.inr rfl, Or.inr rfl, Or.inl rfl, Or.inl rfl, trivial⟩ ?_
                    exact ih (0 : Int32) (a8 + (1 : Int32)) q5.2
                  · refine mS_steps (pc' := 56) (ls' := [.ref 254, .ref 14, .int a2, mU, .int a4, .int a5, .int (1 : Int32), .int a7, .int (a8 + (1 : Int32)), .int q4.1, .int q5.1]) (st' := []) (mem' := (mk q5.2 y)) 5 rfl ?_
                    refine mS_forget [.ref 254, .ref 14, .int a2, mU, .int a4, .int a5, .int (1 : Int32), .int a7, .int (a8 + (1 : Int32)), mU, mU] ⟨Or.inr rfl, Or.inr rfl, Or.inr rfl, Or.inl rfl, Or.inr rfl, Or.inr rfl, Or.inr rfl, Or.inr rfl, Or.inr rfl, Or.inl rfl, Or.inl rfl, trivial⟩ ?_
                    exact ih (1 : Int32) (a8 + (1 : Int32)) q5.2
                · refine mS_steps (pc' := 56) (ls' := [.ref 254, .ref 14, .int a2, mU, .int a4, .int a5, .int (1 : Int32), .int a7, .int (a8 + (1 : Int32)), .int q4.1, .int q5.1]) (st' := []) (mem' := (mk q5.2 y)) 5 rfl ?_
                  refine mS_forget [.ref 254, .ref 14, .int a2, mU, .int a4, .int a5, .int (1 : Int32), .int a7, .int (a8 + (1 : Int32)), mU, mU] ⟨Or.inr rfl, Or.inr rfl, Or.inr rfl, Or.inl rfl, Or.inr rfl, Or.inr rfl, Or.inr rfl, Or.inr rfl, Or.inr rfl, Or.inl rfl, Or.inl rfl, trivial⟩ ?_
                  exact ih (1 : Int32) (a8 + (1 : Int32)) q5.2
              · refine mS_steps (pc' := 56) (ls' := [.ref 254, .ref 14, .int a2, mU, .int a4, .int a5, .int (1 : Int32), .int a7, .int (a8 + (1 : Int32)), .int q4.1, .int q5.1]) (st' := []) (mem' := (mk q5.2 y)) 5 rfl ?_
                refine mS_forget [.ref 254, .ref 14, .int a2, mU, .int a4, .int a5, .int (1 : Int32), .int a7, .int (a8 + (1 : Int32)), mU, mU] ⟨Or.inr rfl, Or.inr rfl, Or.inr rfl, Or.inl rfl, Or.inr rfl, Or.inr rfl, Or.inr rfl, Or.inr rfl, Or.inr rfl, Or.inl rfl, Or.inl rfl, trivial⟩ ?_
                exact ih (1 : Int32) (a8 + (1 : Int32)) q5.2
set_option maxRecDepth 20000 in
set_option maxHeartbeats 2000000 in
theorem f_X4_cheapest_L38_snd {fm : Value} {L : Nat} {xs : Nat → Int32} (a2 : Int32) (a4 : Int32) (a5 : Int32) (y : mY) : ∀ (n : Nat) (a6 : Int32) (a7 : Int32) (x : mX), mS fm L xs (fun r : (Int32 × mX) => (.int r.1, mk r.2 y)) pg_X4_cheapest 38 [.ref 254, .ref 14, .int a2, mU, .int a4, .int a5, .int a6, .int a7, mU, mU, mU] [] (mk x y) (f_X4_cheapest_L38 a2 a4 a5 n a6 a7 x) := by
  intro n
  induction n with
  | zero => intro a6 a7 x; exact mS_none
  | succ n ih =>
    intro a6 a7 x
    rw [f_X4_cheapest_L38]
    refine mS_steps (pc' := 42) (ls' := [.ref 254, .ref 14, .int a2, mU, .int a4, .int a5, .int a6, .int a7, mU, mU, mU]) (st' := [.int (8 : Int32), .int a7]) (mem' := (mk x y)) 2 rfl ?_
    refine mS_ic3 rfl (fun _ => ?_) (fun _ => ?_)
    · refine mS_steps (pc' := 205) (ls' := [.ref 254, .ref 14, .int a2, mU, .int a4, .int a5, .int a6, .int a7, mU, mU, mU]) (st' := [.int a4, .ref 255]) (mem' := (mk x y)) 3 rfl ?_
      refine mS_ald (b := 0) (n := 8) (z := (x.1 255 a4.toNatClampNeg)) rfl (by decide) rfl (by decide) rfl (fun _ => ?_)
      exact mS_reti ⟨_, _, _, _, _, rfl, rfl⟩ rfl
    · refine mS_steps (pc' := 47) (ls' := [.ref 254, .ref 14, .int a2, mU, .int a4, .int a5, .int a6, .int a7, mU, mU, mU]) (st' := [.int a6]) (mem' := (mk x y)) 1 rfl ?_
      refine mS_if0 rfl (fun _ => ?_) (fun _ => ?_)
      · refine mS_steps (pc' := 205) (ls' := [.ref 254, .ref 14, .int a2, mU, .int a4, .int a5, .int a6, .int a7, mU, mU, mU]) (st' := [.int a4, .ref 255]) (mem' := (mk x y)) 3 rfl ?_
        refine mS_ald (b := 0) (n := 8) (z := (x.1 255 a4.toNatClampNeg)) rfl (by decide) rfl (by decide) rfl (fun _ => ?_)
        exact mS_reti ⟨_, _, _, _, _, rfl, rfl⟩ rfl
      · refine mS_steps (pc' := 56) (ls' := [.ref 254, .ref 14, .int a2, mU, .int a4, .int a5, .int (0 : Int32), .int a7, .int (0 : Int32), mU, mU]) (st' := []) (mem' := (mk x y)) 4 rfl ?_
        refine f_X4_cheapest_L56_snd a2 a4 a5 a7 y _ ?_ mF (0 : Int32) (0 : Int32) x
        · intro v6 x7
          refine mS_steps (pc' := 38) (ls' := [.ref 254, .ref 14, .int a2, mU, .int a4, .int a5, .int v6, .int (a7 + (1 : Int32)), mU, mU, mU]) (st' := []) (mem' := (mk x7 y)) 2 rfl ?_
          exact ih v6 (a7 + (1 : Int32)) x7
set_option maxRecDepth 20000 in
set_option maxHeartbeats 2000000 in
theorem f_X4_cheapest_snd {fm : Value} {L : Nat} {xs : Nat → Int32} (p2 : Int32) (p3 : Int32) (p4 : Int32) (p5 : Int32) (x : mX) (y : mY) : mS fm L xs (fun r : (Int32 × mX) => (.int r.1, mk r.2 y)) pg_X4_cheapest 0 (m_entry [.ref 254, .ref 14, .int p2, .int p3, .int p4, .int p5] 11) [] (mk x y) ((f_X4_cheapest p2 p3 p4 p5 x)) := by
  unfold f_X4_cheapest
  refine mS_steps (pc' := 0) (ls' := [.ref 254, .ref 14, .int p2, .int p3, .int p4, .int p5, mU, mU, mU, mU, mU]) (st' := []) (mem' := (mk x y)) 0 rfl ?_
  refine mS_steps (pc' := 3) (ls' := [.ref 254, .ref 14, .int p2, .int p3, .int p4, .int p5, .int (0 : Int32), mU, mU, mU, mU]) (st' := []) (mem' := (mk x y)) 2 rfl ?_
  refine f_X4_cheapest_L3_snd p2 p3 p4 p5 y _ ?_ mF (0 : Int32) x
  · intro x2
    refine mS_steps (pc' := 31) (ls' := [.ref 254, .ref 14, .int p2, .int p3, .int p4, .int p5, mU, mU, mU, mU, mU]) (st' := [.int (0 : Int32), .int p3, .ref 255]) (mem' := (mk x2 y)) 4 rfl ?_
    refine mS_ast0x (n := 8) rfl rfl (by decide) (fun _ => ?_)
    refine mS_letx (fun x3 => ?_)
    refine mS_steps (pc' := 38) (ls' := [.ref 254, .ref 14, .int p2, .int p3, .int p4, .int p5, .int (1 : Int32), .int (0 : Int32), mU, mU, mU]) (st' := []) (mem' := (mk x3 y)) 4 rfl ?_
    refine mS_forget [.ref 254, .ref 14, .int p2, mU, .int p4, .int p5, .int (1 : Int32), .int (0 : Int32), mU, mU, mU] ⟨Or.inr rfl, Or.inr rfl, Or.inr rfl, Or.inl rfl, Or.inr rfl, Or.inr rfl, Or.inr rfl, Or.inr rfl, Or.inl rfl, Or.inl rfl, Or.inl rfl, trivial⟩ ?_
    refine f_X4_cheapest_L38_snd p2 p4 p5 y mF (1 : Int32) (0 : Int32) x3
def f_X10_cheap (p1 : Int32) (p2 : Int32) (x : mX) : Option (Int32 × mX) := (if (f_X10_canSend p1 p2 x) = 0 then (some ((-1 : Int32), x)) else ((f_X6_live 14 x).bind fun q1 => ((f_X4_cheapest q1 p1 p2 (x.1 14 2) x).bind fun q2 => (if q2.1 < (1000000 : Int32) then (some (q2.1, q2.2)) else (some ((-2 : Int32), q2.2))))))
set_option maxRecDepth 20000 in
set_option maxHeartbeats 2000000 in
theorem f_X10_cheap_snd {fm : Value} {L : Nat} {xs : Nat → Int32} (p1 : Int32) (p2 : Int32) (x : mX) (y : mY) : mS fm L xs (fun r : (Int32 × mX) => (.int r.1, mk r.2 y)) pg_X10_cheap 0 (m_entry [.ref 0, .int p1, .int p2] 4) [] (mk x y) ((f_X10_cheap p1 p2 x)) := by
  unfold f_X10_cheap
  refine mS_steps (pc' := 0) (ls' := [.ref 0, .int p1, .int p2, mU]) (st' := []) (mem' := (mk x y)) 0 rfl ?_
  refine mS_steps (pc' := 3) (ls' := [.ref 0, .int p1, .int p2, mU]) (st' := [.int p2, .int p1, .ref 0]) (mem' := (mk x y)) 3 rfl ?_
  refine mS_call (q := (f_X10_canSend p1 p2 x)) 111 3 [.ref 0, .int p1, .int p2] [] rfl rfl rfl ⟨_, _, _, rfl, rfl⟩ (Nat.le_of_ble_eq_true rfl) (Nat.le_of_ble_eq_true rfl) rfl (f_X10_canSend_snd p1 p2 x y) ?_
  refine mS_steps (pc' := 6) (ls' := [.ref 0, .int p1, .int p2, mU]) (st' := [.int (f_X10_canSend p1 p2 x)]) (mem' := (mk x y)) 0 rfl ?_
  refine mS_if1 rfl (fun _ => ?_) (fun _ => ?_)
  · refine mS_steps (pc' := 10) (ls' := [.ref 0, .int p1, .int p2, mU]) (st' := [.int (-1 : Int32)]) (mem' := (mk x y)) 1 rfl ?_
    exact mS_reti ⟨_, _, _, _, _, rfl, rfl⟩ rfl
  · refine mS_steps (pc' := 23) (ls' := [.ref 0, .int p1, .int p2, mU]) (st' := [.ref 14, .ref 14, .ref 254]) (mem' := (mk x y)) 6 rfl ?_
    refine mS_bind (fun q1 hq1 => mS_call 61 1 [.ref 14] [.ref 14, .ref 254] rfl rfl rfl ⟨_, _, _, rfl, rfl⟩ (Nat.le_of_ble_eq_true rfl) (Nat.le_of_ble_eq_true rfl) hq1 (f_X6_live_14_snd  x y) ?_)
    refine mS_steps (pc' := 35) (ls' := [.ref 0, .int p1, .int p2, mU]) (st' := [.int (x.1 14 2), .int p2, .int p1, .int q1, .ref 14, .ref 254]) (mem' := (mk x y)) 5 rfl ?_
    refine mS_bind (fun q2 hq2 => mS_call 243 6 [.ref 254, .ref 14, .int q1, .int p1, .int p2, .int (x.1 14 2)] [] rfl rfl rfl ⟨_, _, _, rfl, rfl⟩ (Nat.le_of_ble_eq_true rfl) (Nat.le_of_ble_eq_true rfl) hq2 (f_X4_cheapest_snd q1 p1 p2 (x.1 14 2) x y) ?_)
    refine mS_steps (pc' := 43) (ls' := [.ref 0, .int p1, .int p2, .int q2.1]) (st' := [.int (1000000 : Int32), .int q2.1]) (mem' := (mk q2.2 y)) 3 rfl ?_
    refine mS_ic2 rfl (fun _ => ?_) (fun _ => ?_)
    · refine mS_steps (pc' := 52) (ls' := [.ref 0, .int p1, .int p2, .int q2.1]) (st' := [.int q2.1]) (mem' := (mk q2.2 y)) 1 rfl ?_
      exact mS_reti ⟨_, _, _, _, _, rfl, rfl⟩ rfl
    · refine mS_steps (pc' := 52) (ls' := [.ref 0, .int p1, .int p2, .int q2.1]) (st' := [.int (-2 : Int32)]) (mem' := (mk q2.2 y)) 2 rfl ?_
      exact mS_reti ⟨_, _, _, _, _, rfl, rfl⟩ rfl
def f_X11_costOf (p1 : Int32) (p2 : Int32) (y : mY) : Option Int32 := (if m_in p1 24 = true then (if (f_X11_has (y.1 293 p1.toNatClampNeg) p2) = 0 then (some (1000000 : Int32)) else ((f_X11_between p1 p2 y).bind fun q1 => (if m_in ((40 : Int32) + q1) 72 = true then (some (y.1 289 ((40 : Int32) + q1).toNatClampNeg)) else none))) else none)
set_option maxRecDepth 20000 in
set_option maxHeartbeats 2000000 in
theorem f_X11_costOf_snd {fm : Value} {L : Nat} {xs : Nat → Int32} (p1 : Int32) (p2 : Int32) (y : mY) (x : mX) : mS fm L xs (fun r : Int32 => (.int r, (mk x y))) pg_X11_costOf 0 (m_entry [.ref 279, .int p1, .int p2] 3) [] (mk x y) ((f_X11_costOf p1 p2 y)) := by
  unfold f_X11_costOf
  refine mS_steps (pc' := 0) (ls' := [.ref 279, .int p1, .int p2]) (st' := []) (mem' := (mk x y)) 0 rfl ?_
  refine mS_steps (pc' := 5) (ls' := [.ref 279, .int p1, .int p2]) (st' := [.int p1, .ref 293]) (mem' := (mk x y)) 3 rfl ?_
  refine mS_ald (b := 0) (n := 24) (z := (y.1 293 p1.toNatClampNeg)) rfl (by decide) rfl (by decide) rfl (fun _ => ?_)
  refine mS_steps (pc' := 7) (ls' := [.ref 279, .int p1, .int p2]) (st' := [.int p2, .int (y.1 293 p1.toNatClampNeg)]) (mem' := (mk x y)) 1 rfl ?_
  refine mS_call (q := (f_X11_has (y.1 293 p1.toNatClampNeg) p2)) 87 2 [.int (y.1 293 p1.toNatClampNeg), .int p2] [] rfl rfl rfl ⟨_, _, _, rfl, rfl⟩ (Nat.le_of_ble_eq_true rfl) (Nat.le_of_ble_eq_true rfl) rfl (f_X11_has_snd (y.1 293 p1.toNatClampNeg) p2 (mk x y)) ?_
  refine mS_steps (pc' := 10) (ls' := [.ref 279, .int p1, .int p2]) (st' := [.int (f_X11_has (y.1 293 p1.toNatClampNeg) p2)]) (mem' := (mk x y)) 0 rfl ?_
  refine mS_if0 rfl (fun _ => ?_) (fun _ => ?_)
  · refine mS_steps (pc' := 33) (ls' := [.ref 279, .int p1, .int p2]) (st' := [.int (1000000 : Int32)]) (mem' := (mk x y)) 1 rfl ?_
    exact mS_reti ⟨_, _, _, _, _, rfl, rfl⟩ rfl
  · refine mS_steps (pc' := 22) (ls' := [.ref 279, .int p1, .int p2]) (st' := [.int p2, .int p1, .ref 279, .int (40 : Int32), .ref 289]) (mem' := (mk x y)) 6 rfl ?_
    refine mS_bind (fun q1 hq1 => mS_call 107 3 [.ref 279, .int p1, .int p2] [.int (40 : Int32), .ref 289] rfl rfl rfl ⟨_, _, _, rfl, rfl⟩ (Nat.le_of_ble_eq_true rfl) (Nat.le_of_ble_eq_true rfl) hq1 (f_X11_between_snd p1 p2 y x) ?_)
    refine mS_steps (pc' := 26) (ls' := [.ref 279, .int p1, .int p2]) (st' := [.int ((40 : Int32) + q1), .ref 289]) (mem' := (mk x y)) 1 rfl ?_
    refine mS_ald (b := 0) (n := 72) (z := (y.1 289 ((40 : Int32) + q1).toNatClampNeg)) rfl (by decide) rfl (by decide) rfl (fun _ => ?_)
    refine mS_steps (pc' := 33) (ls' := [.ref 279, .int p1, .int p2]) (st' := [.int (y.1 289 ((40 : Int32) + q1).toNatClampNeg)]) (mem' := (mk x y)) 1 rfl ?_
    exact mS_reti ⟨_, _, _, _, _, rfl, rfl⟩ rfl
def f_X11_laysWays_L142 (a5 : Int32) (a6 : Int32) : Nat → Int32 → Int32 → mY → (Int32 → Option mY) → Option mY
  | 0, _, _, _, _ => none
  | n + 1, a7, a8, y, k216 => (if (8 : Int32) ≤ a8 then (k216 a7) else (if (f_X11_has a6 a8) = 0 then (f_X11_laysWays_L142 a5 a6 n a7 (a8 + (1 : Int32)) y k216) else (if m_in (((8 : Int32) * a6) + a8) 2048 = true then ((f_X11_costOf a8 a5 y).bind fun q8 => (if a7 ≤ ((y.1 311 (((8 : Int32) * a6) + a8).toNatClampNeg) + q8) then (f_X11_laysWays_L142 a5 a6 n a7 (a8 + (1 : Int32)) y k216) else (if m_in (((8 : Int32) * a6) + a8) 2048 = true then ((f_X11_costOf a8 a5 y).bind fun q9 => (f_X11_laysWays_L142 a5 a6 n ((y.1 311 (((8 : Int32) * a6) + a8).toNatClampNeg) + q9) (a8 + (1 : Int32)) y k216)) else none))) else none)))
def f_X11_laysWays_L63 (a1 : Int32) (a2 : Int32) (a3 : Int32) (a4 : Int32) : Nat → Int32 → mY → (mY → Option mY) → Option mY
  | 0, _, _, _ => none
  | n + 1, a5, y, k288 => (if (8 : Int32) ≤ a5 then (k288 y) else (if m_in (((8 : Int32) * a4) + a5) 2048 = true then (m_let (m_ys y 311 (((8 : Int32) * a4) + a5).toNatClampNeg (1000000 : Int32)) fun y5 => (if (a4 &&& (a3 ^^^ (-1 : Int32))) = 0 then (if (f_X11_has a4 a5) = 0 then (f_X11_laysWays_L63 a1 a2 a3 a4 n (a5 + (1 : Int32)) y5 k288) else (m_jn (fun w7 => (f_X11_laysWays_L142 a5 (a4 &&& (((1 : Int32) <<< (a5 &&& 31)) ^^^ (-1 : Int32))) mF w7 (0 : Int32) y5 (fun v10 => (m_jn (fun w12 => (if m_in (((8 : Int32) * a4) + a5) 2048 = true then (m_let (m_ys y5 311 (((8 : Int32) * a4) + a5).toNatClampNeg w12) fun y13 => ((f_X11_costOf a5 a2 y13).bind fun q14 => (if m_in a4 256 = true then (if (y13.1 312 a4.toNatClampNeg) ≤ (v10 + q14) then (f_X11_laysWays_L63 a1 a2 a3 a4 n (a5 + (1 : Int32)) y13 k288) else ((f_X11_costOf a5 a2 y13).bind fun q15 => (if m_in a4 256 = true then (m_let (m_ys y13 312 a4.toNatClampNeg (v10 + q15)) fun y16 => (f_X11_laysWays_L63 a1 a2 a3 a4 n (a5 + (1 : Int32)) y16 k288)) else none))) else none))) else none)) (fun j11 => if (1000000 : Int32) ≤ v10 then (j11 (1000000 : Int32)) else (j11 v10)))))) (fun j6 => if (a4 &&& (((1 : Int32) <<< (a5 &&& 31)) ^^^ (-1 : Int32))) = 0 then ((f_X11_costOf a1 a5 y5).bind fun q17 => (j6 q17)) else (j6 (1000000 : Int32))))) else (f_X11_laysWays_L63 a1 a2 a3 a4 n (a5 + (1 : Int32)) y5 k288))) else none))
def f_X11_laysWays_L28 (a1 : Int32) (a2 : Int32) (a3 : Int32) : Nat → Int32 → mY → Option mY
  | 0, _, _ => none
  | n + 1, a4, y => (if (256 : Int32) ≤ a4 then (some y) else (m_jn (fun w3 => (if m_in a4 256 = true then (m_let (m_ys y 312 a4.toNatClampNeg w3) fun y4 => (f_X11_laysWays_L63 a1 a2 a3 a4 mF (0 : Int32) y4 (fun y18 => (f_X11_laysWays_L28 a1 a2 a3 n (a4 + (1 : Int32)) y18)))) else none)) (fun j2 => if a4 = 0 then ((f_X11_costOf a1 a2 y).bind fun q19 => (j2 q19)) else (j2 (1000000 : Int32)))))
def f_X11_laysWays (p1 : Int32) (p2 : Int32) (y : mY) : Option mY := ((f_X11_laysNet (0 : Int32) y).bind fun q1 => (f_X11_laysWays_L28 p1 p2 (((q1.2.1 289 0) &&& (((1 : Int32) <<< (p1 &&& 31)) ^^^ (-1 : Int32))) &&& (((1 : Int32) <<< (p2 &&& 31)) ^^^ (-1 : Int32))) mF (0 : Int32) q1.2))
set_option maxRecDepth 20000 in
set_option maxHeartbeats 2000000 in
theorem f_X11_laysWays_L142_snd {fm : Value} {L : Nat} {xs : Nat → Int32} (a1 : Int32) (a2 : Int32) (a3 : Int32) (a4 : Int32) (a5 : Int32) (a6 : Int32) (y : mY) (x : mX) (k216 : Int32 → Option mY) (hk216 : ∀ (b7 : Int32), mS fm L xs (fun r : mY => (mU, mk x r)) pg_X11_laysWays 216 [.ref 279, .int a1, .int a2, .int a3, .int a4, .int a5, mU, .int b7, mU] [] (mk x y) (k216 b7)) : ∀ (n : Nat) (a7 : Int32) (a8 : Int32), mS fm L xs (fun r : mY => (mU, mk x r)) pg_X11_laysWays 142 [.ref 279, .int a1, .int a2, .int a3, .int a4, .int a5, .int a6, .int a7, .int a8] [] (mk x y) (f_X11_laysWays_L142 a5 a6 n a7 a8 y k216) := by
  intro n
  induction n with
  | zero => intro a7 a8; exact mS_none
  | succ n ih =>
    intro a7 a8
    rw [f_X11_laysWays_L142]
    refine mS_steps (pc' := 146) (ls' := [.ref 279, .int a1, .int a2, .int a3, .int a4, .int a5, .int a6, .int a7, .int a8]) (st' := [.int (8 : Int32), .int a8]) (mem' := (mk x y)) 2 rfl ?_
    refine mS_ic3 rfl (fun _ => ?_) (fun _ => ?_)
    · refine mS_forget [.ref 279, .int a1, .int a2, .int a3, .int a4, .int a5, mU, .int a7, mU] ⟨Or.inr rfl, Or.inr rfl, Or.inr rfl, Or.inr rfl, Or.inr rfl, Or.inr rfl, Or.inl rfl, Or.inr rfl, Or.inl rfl, trivial⟩ ?_
      exact hk216 a7
    · refine mS_steps (pc' := 153) (ls' := [.ref 279, .int a1, .int a2, .int a3, .int a4, .int a5, .int a6, .int a7, .int a8]) (st' := [.int a8, .int a6]) (mem' := (mk x y)) 2 rfl ?_
      refine mS_call (q := (f_X11_has a6 a8)) 87 2 [.int a6, .int a8] [] rfl rfl rfl ⟨_, _, _, rfl, rfl⟩ (Nat.le_of_ble_eq_true rfl) (Nat.le_of_ble_eq_true rfl) rfl (f_X11_has_snd a6 a8 (mk x y)) ?_
      refine mS_steps (pc' := 156) (ls' := [.ref 279, .int a1, .int a2, .int a3, .int a4, .int a5, .int a6, .int a7, .int a8]) (st' := [.int (f_X11_has a6 a8)]) (mem' := (mk x y)) 0 rfl ?_
      refine mS_if0 rfl (fun _ => ?_) (fun _ => ?_)
      · refine mS_steps (pc' := 142) (ls' := [.ref 279, .int a1, .int a2, .int a3, .int a4, .int a5, .int a6, .int a7, .int (a8 + (1 : Int32))]) (st' := []) (mem' := (mk x y)) 2 rfl ?_
        exact ih a7 (a8 + (1 : Int32))
      · refine mS_steps (pc' := 171) (ls' := [.ref 279, .int a1, .int a2, .int a3, .int a4, .int a5, .int a6, .int a7, .int a8]) (st' := [.int (((8 : Int32) * a6) + a8), .ref 311]) (mem' := (mk x y)) 7 rfl ?_
        refine mS_ald (b := 0) (n := 2048) (z := (y.1 311 (((8 : Int32) * a6) + a8).toNatClampNeg)) rfl (by decide) rfl (by decide) rfl (fun _ => ?_)
        refine mS_steps (pc' := 177) (ls' := [.ref 279, .int a1, .int a2, .int a3, .int a4, .int a5, .int a6, .int a7, .int a8]) (st' := [.int a5, .int a8, .ref 279, .int (y.1 311 (((8 : Int32) * a6) + a8).toNatClampNeg)]) (mem' := (mk x y)) 3 rfl ?_
        refine mS_bind (fun q8 hq8 => mS_call 245 3 [.ref 279, .int a8, .int a5] [.int (y.1 311 (((8 : Int32) * a6) + a8).toNatClampNeg)] rfl rfl rfl ⟨_, _, _, rfl, rfl⟩ (Nat.le_of_ble_eq_true rfl) (Nat.le_of_ble_eq_true rfl) hq8 (f_X11_costOf_snd a8 a5 y x) ?_)
        refine mS_steps (pc' := 183) (ls' := [.ref 279, .int a1, .int a2, .int a3, .int a4, .int a5, .int a6, .int a7, .int a8]) (st' := [.int a7, .int ((y.1 311 (((8 : Int32) * a6) + a8).toNatClampNeg) + q8)]) (mem' := (mk x y)) 2 rfl ?_
        refine mS_ic3 rfl (fun _ => ?_) (fun _ => ?_)
        · refine mS_steps (pc' := 142) (ls' := [.ref 279, .int a1, .int a2, .int a3, .int a4, .int a5, .int a6, .int a7, .int (a8 + (1 : Int32))]) (st' := []) (mem' := (mk x y)) 2 rfl ?_
          exact ih a7 (a8 + (1 : Int32))
        · refine mS_steps (pc' := 198) (ls' := [.ref 279, .int a1, .int a2, .int a3, .int a4, .int a5, .int a6, .int a7, .int a8]) (st' := [.int (((8 : Int32) * a6) + a8), .ref 311]) (mem' := (mk x y)) 7 rfl ?_
          refine mS_ald (b := 0) (n := 2048) (z := (y.1 311 (((8 : Int32) * a6) + a8).toNatClampNeg)) rfl (by decide) rfl (by decide) rfl (fun _ => ?_)
          refine mS_steps (pc' := 204) (ls' := [.ref 279, .int a1, .int a2, .int a3, .int a4, .int a5, .int a6, .int a7, .int a8]) (st' := [.int a5, .int a8, .ref 279, .int (y.1 311 (((8 : Int32) * a6) + a8).toNatClampNeg)]) (mem' := (mk x y)) 3 rfl ?_
          refine mS_bind (fun q9 hq9 => mS_call 245 3 [.ref 279, .int a8, .int a5] [.int (y.1 311 (((8 : Int32) * a6) + a8).toNatClampNeg)] rfl rfl rfl ⟨_, _, _, rfl, rfl⟩ (Nat.le_of_ble_eq_true rfl) (Nat.le_of_ble_eq_true rfl) hq9 (f_X11_costOf_snd a8 a5 y x) ?_)
          refine mS_steps (pc' := 142) (ls' := [.ref 279, .int a1, .int a2, .int a3, .int a4, .int a5, .int a6, .int ((y.1 311 (((8 : Int32) * a6) + a8).toNatClampNeg) + q9), .int (a8 + (1 : Int32))]) (st' := []) (mem' := (mk x y)) 4 rfl ?_
          exact ih ((y.1 311 (((8 : Int32) * a6) + a8).toNatClampNeg) + q9) (a8 + (1 : Int32))
set_option maxRecDepth 20000 in
set_option maxHeartbeats 2000000 in
theorem f_X11_laysWays_L63_snd {fm : Value} {L : Nat} {xs : Nat → Int32} (a1 : Int32) (a2 : Int32) (a3 : Int32) (a4 : Int32) (x : mX) (k288 : mY → Option mY) (hk288 : ∀ (z0 : mY), mS fm L xs (fun r : mY => (mU, mk x r)) pg_X11_laysWays 288 [.ref 279, .int a1, .int a2, .int a3, .int a4, mU, mU, mU, mU] [] (mk x z0) (k288 z0)) : ∀ (n : Nat) (a5 : Int32) (y : mY), mS fm L xs (fun r : mY => (mU, mk x r)) pg_X11_laysWays 63 [.ref 279, .int a1, .int a2, .int a3, .int a4, .int a5, mU, mU, mU] [] (mk x y) (f_X11_laysWays_L63 a1 a2 a3 a4 n a5 y k288) := by
  intro n
  induction n with
  | zero => intro a5 y; exact mS_none
  | succ n ih =>
    intro a5 y
    rw [f_X11_laysWays_L63]
    refine mS_steps (pc' := 67) (ls' := [.ref 279, .int a1, .int a2, .int a3, .int a4, .int a5, mU, mU, mU]) (st' := [.int (8 : Int32), .int a5]) (mem' := (mk x y)) 2 rfl ?_
    refine mS_ic3 rfl (fun _ => ?_) (fun _ => ?_)
    · refine mS_forget [.ref 279, .int a1, .int a2, .int a3, .int a4, mU, mU, mU, mU] ⟨Or.inr rfl, Or.inr rfl, Or.inr rfl, Or.inr rfl, Or.inr rfl, Or.inl rfl, Or.inl rfl, Or.inl rfl, Or.inl rfl, trivial⟩ ?_
      exact hk288 y
    · refine mS_steps (pc' := 85) (ls' := [.ref 279, .int a1, .int a2, .int a3, .int a4, .int a5, mU, mU, mU]) (st' := [.int (1000000 : Int32), .int (((8 : Int32) * a4) + a5), .ref 311]) (mem' := (mk x y)) 8 rfl ?_
      refine mS_ast0y (n := 2048) rfl rfl (by decide) (fun _ => ?_)
      refine mS_lety (fun y5 => ?_)
      refine mS_steps (pc' := 92) (ls' := [.ref 279, .int a1, .int a2, .int a3, .int a4, .int a5, mU, mU, mU]) (st' := [.int (a4 &&& (a3 ^^^ (-1 : Int32)))]) (mem' := (mk x y5)) 5 rfl ?_
      refine mS_if1 rfl (fun _ => ?_) (fun _ => ?_)
      · refine mS_steps (pc' := 99) (ls' := [.ref 279, .int a1, .int a2, .int a3, .int a4, .int a5, mU, mU, mU]) (st' := [.int a5, .int a4]) (mem' := (mk x y5)) 2 rfl ?_
        refine mS_call (q := (f_X11_has a4 a5)) 87 2 [.int a4, .int a5] [] rfl rfl rfl ⟨_, _, _, rfl, rfl⟩ (Nat.le_of_ble_eq_true rfl) (Nat.le_of_ble_eq_true rfl) rfl (f_X11_has_snd a4 a5 (mk x y5)) ?_
        refine mS_steps (pc' := 102) (ls' := [.ref 279, .int a1, .int a2, .int a3, .int a4, .int a5, mU, mU, mU]) (st' := [.int (f_X11_has a4 a5)]) (mem' := (mk x y5)) 0 rfl ?_
        refine mS_if1 rfl (fun _ => ?_) (fun _ => ?_)
        · refine mS_steps (pc' := 63) (ls' := [.ref 279, .int a1, .int a2, .int a3, .int a4, .int (a5 + (1 : Int32)), mU, mU, mU]) (st' := []) (mem' := (mk x y5)) 3 rfl ?_
          exact ih (a5 + (1 : Int32)) y5
        · refine mS_steps (pc' := 121) (ls' := [.ref 279, .int a1, .int a2, .int a3, .int a4, .int a5, .int (a4 &&& (((1 : Int32) <<< (a5 &&& 31)) ^^^ (-1 : Int32))), mU, mU]) (st' := [.int (a4 &&& (((1 : Int32) <<< (a5 &&& 31)) ^^^ (-1 : Int32)))]) (mem' := (mk x y5)) 9 rfl ?_
          refine mS_jn (fun j => ∀ z : Int32, mS fm L xs (fun r : mY => (mU, mk x r)) pg_X11_laysWays 137 [.ref 279, .int a1, .int a2, .int a3, .int a4, .int a5, .int (a4 &&& (((1 : Int32) <<< (a5 &&& 31)) ^^^ (-1 : Int32))), mU, mU] [.int z] (mk x y5) (j z)) ?_ ?_
          · intro z
            revert z; intro w7
            refine mS_steps (pc' := 142) (ls' := [.ref 279, .int a1, .int a2, .int a3, .int a4, .int a5, .int (a4 &&& (((1 : Int32) <<< (a5 &&& 31)) ^^^ (-1 : Int32))), .int w7, .int (0 : Int32)]) (st' := []) (mem' := (mk x y5)) 3 rfl ?_
            refine f_X11_laysWays_L142_snd a1 a2 a3 a4 a5 (a4 &&& (((1 : Int32) <<< (a5 &&& 31)) ^^^ (-1 : Int32))) y5 x _ ?_ mF w7 (0 : Int32)
            · intro v10
              refine mS_steps (pc' := 233) (ls' := [.ref 279, .int a1, .int a2, .int a3, .int a4, .int a5, mU, .int v10, mU]) (st' := [.int (1000000 : Int32), .int v10, .int (((8 : Int32) * a4) + a5), .ref 311]) (mem' := (mk x y5)) 9 rfl ?_
              refine mS_jn (fun j => ∀ z : Int32, mS fm L xs (fun r : mY => (mU, mk x r)) pg_X11_laysWays 244 [.ref 279, .int a1, .int a2, .int a3, .int a4, .int a5, mU, .int v10, mU] [.int z, .int (((8 : Int32) * a4) + a5), .ref 311] (mk x y5) (j z)) ?_ ?_
              · intro z
                revert z; intro w12
                refine mS_ast0y (n := 2048) rfl rfl (by decide) (fun _ => ?_)
                refine mS_lety (fun y13 => ?_)
                refine mS_steps (pc' := 251) (ls' := [.ref 279, .int a1, .int a2, .int a3, .int a4, .int a5, mU, .int v10, mU]) (st' := [.int a2, .int a5, .ref 279, .int v10]) (mem' := (mk x y13)) 4 rfl ?_
                refine mS_bind (fun q14 hq14 => mS_call 245 3 [.ref 279, .int a5, .int a2] [.int v10] rfl rfl rfl ⟨_, _, _, rfl, rfl⟩ (Nat.le_of_ble_eq_true rfl) (Nat.le_of_ble_eq_true rfl) hq14 (f_X11_costOf_snd a5 a2 y13 x) ?_)
                refine mS_steps (pc' := 261) (ls' := [.ref 279, .int a1, .int a2, .int a3, .int a4, .int a5, mU, .int v10, mU]) (st' := [.int a4, .ref 312, .int (v10 + q14)]) (mem' := (mk x y13)) 4 rfl ?_
                refine mS_ald (b := 0) (n := 256) (z := (y13.1 312 a4.toNatClampNeg)) rfl (by decide) rfl (by decide) rfl (fun _ => ?_)
                refine mS_ic3 rfl (fun _ => ?_) (fun _ => ?_)
                · refine mS_steps (pc' := 63) (ls' := [.ref 279, .int a1, .int a2, .int a3, .int a4, .int (a5 + (1 : Int32)), mU, .int v10, mU]) (st' := []) (mem' := (mk x y13)) 2 rfl ?_
                  refine mS_forget [.ref 279, .int a1, .int a2, .int a3, .int a4, .int (a5 + (1 : Int32)), mU, mU, mU] ⟨Or.inr rfl, Or.inr rfl, Or.inr rfl, Or.inr rfl, Or.inr rfl, Or.inr rfl, Or.inl rfl, Or.inl rfl, Or.inl rfl, trivial⟩ ?_
                  exact ih (a5 + (1 : Int32)) y13
                · refine mS_steps (pc' := 277) (ls' := [.ref 279, .int a1, .int a2, .int a3, .int a4, .int a5, mU, .int v10, mU]) (st' := [.int a2, .int a5, .ref 279, .int v10, .int a4, .ref 312]) (mem' := (mk x y13)) 7 rfl ?_
                  refine mS_bind (fun q15 hq15 => mS_call 245 3 [.ref 279, .int a5, .int a2] [.int v10, .int a4, .ref 312] rfl rfl rfl ⟨_, _, _, rfl, rfl⟩ (Nat.le_of_ble_eq_true rfl) (Nat.le_of_ble_eq_true rfl) hq15 (f_X11_costOf_snd a5 a2 y13 x) ?_)
                  refine mS_steps (pc' := 281) (ls' := [.ref 279, .int a1, .int a2, .int a3, .int a4, .int a5, mU, .int v10, mU]) (st' := [.int (v10 + q15), .int a4, .ref 312]) (mem' := (mk x y13)) 1 rfl ?_
                  refine mS_ast0y (n := 256) rfl rfl (by decide) (fun _ => ?_)
                  refine mS_lety (fun y16 => ?_)
                  refine mS_steps (pc' := 63) (ls' := [.ref 279, .int a1, .int a2, .int a3, .int a4, .int (a5 + (1 : Int32)), mU, .int v10, mU]) (st' := []) (mem' := (mk x y16)) 2 rfl ?_
                  refine mS_forget [.ref 279, .int a1, .int a2, .int a3, .int a4, .int (a5 + (1 : Int32)), mU, mU, mU] ⟨Or.inr rfl, Or.inr rfl, Or.inr rfl, Or.inr rfl, Or.inr rfl, Or.inr rfl, Or.inl rfl, Or.inl rfl, Or.inl rfl, trivial⟩ ?_
                  exact ih (a5 + (1 : Int32)) y16
              intro j11 hj11
              refine mS_ic3 rfl (fun _ => ?_) (fun _ => ?_)
              · refine mS_steps (pc' := 244) (ls' := [.ref 279, .int a1, .int a2, .int a3, .int a4, .int a5, mU, .int v10, mU]) (st' := [.int (1000000 : Int32), .int (((8 : Int32) * a4) + a5), .ref 311]) (mem' := (mk x y5)) 1 rfl ?_
                exact hj11 (1000000 : Int32)
              · refine mS_steps (pc' := 244) (ls' := [.ref 279, .int a1, .int a2, .int a3, .int a4, .int a5, mU, .int v10, mU]) (st' := [.int v10, .int (((8 : Int32) * a4) + a5), .ref 311]) (mem' := (mk x y5)) 2 rfl ?_
                exact hj11 v10
          intro j6 hj6
          refine mS_if1 rfl (fun _ => ?_) (fun _ => ?_)
          · refine mS_steps (pc' := 128) (ls' := [.ref 279, .int a1, .int a2, .int a3, .int a4, .int a5, .int (a4 &&& (((1 : Int32) <<< (a5 &&& 31)) ^^^ (-1 : Int32))), mU, mU]) (st' := [.int a5, .int a1, .ref 279]) (mem' := (mk x y5)) 3 rfl ?_
            refine mS_bind (fun q17 hq17 => mS_call 245 3 [.ref 279, .int a1, .int a5] [] rfl rfl rfl ⟨_, _, _, rfl, rfl⟩ (Nat.le_of_ble_eq_true rfl) (Nat.le_of_ble_eq_true rfl) hq17 (f_X11_costOf_snd a1 a5 y5 x) ?_)
            refine mS_steps (pc' := 137) (ls' := [.ref 279, .int a1, .int a2, .int a3, .int a4, .int a5, .int (a4 &&& (((1 : Int32) <<< (a5 &&& 31)) ^^^ (-1 : Int32))), mU, mU]) (st' := [.int q17]) (mem' := (mk x y5)) 1 rfl ?_
            exact hj6 q17
          · refine mS_steps (pc' := 137) (ls' := [.ref 279, .int a1, .int a2, .int a3, .int a4, .int a5, .int (a4 &&& (((1 : Int32) <<< (a5 &&& 31)) ^^^ (-1 : Int32))), mU, mU]) (st' := [.int (1000000 : Int32)]) (mem' := (mk x y5)) 1 rfl ?_
            exact hj6 (1000000 : Int32)
      · refine mS_steps (pc' := 63) (ls' := [.ref 279, .int a1, .int a2, .int a3, .int a4, .int (a5 + (1 : Int32)), mU, mU, mU]) (st' := []) (mem' := (mk x y5)) 2 rfl ?_
        exact ih (a5 + (1 : Int32)) y5
set_option maxRecDepth 20000 in
set_option maxHeartbeats 2000000 in
theorem f_X11_laysWays_L28_snd {fm : Value} {L : Nat} {xs : Nat → Int32} (a1 : Int32) (a2 : Int32) (a3 : Int32) (x : mX) : ∀ (n : Nat) (a4 : Int32) (y : mY), mS fm L xs (fun r : mY => (mU, mk x r)) pg_X11_laysWays 28 [.ref 279, .int a1, .int a2, .int a3, .int a4, mU, mU, mU, mU] [] (mk x y) (f_X11_laysWays_L28 a1 a2 a3 n a4 y) := by
  intro n
  induction n with
  | zero => intro a4 y; exact mS_none
  | succ n ih =>
    intro a4 y
    rw [f_X11_laysWays_L28]
    refine mS_steps (pc' := 33) (ls' := [.ref 279, .int a1, .int a2, .int a3, .int a4, mU, mU, mU, mU]) (st' := [.int (256 : Int32), .int a4]) (mem' := (mk x y)) 2 rfl ?_
    refine mS_ic3 rfl (fun _ => ?_) (fun _ => ?_)
    · exact mS_retv ⟨_, _, _, _, _, rfl⟩ rfl
    · refine mS_steps (pc' := 44) (ls' := [.ref 279, .int a1, .int a2, .int a3, .int a4, mU, mU, mU, mU]) (st' := [.int a4, .int a4, .ref 312]) (mem' := (mk x y)) 4 rfl ?_
      refine mS_jn (fun j => ∀ z : Int32, mS fm L xs (fun r : mY => (mU, mk x r)) pg_X11_laysWays 59 [.ref 279, .int a1, .int a2, .int a3, .int a4, mU, mU, mU, mU] [.int z, .int a4, .ref 312] (mk x y) (j z)) ?_ ?_
      · intro z
        revert z; intro w3
        refine mS_ast0y (n := 256) rfl rfl (by decide) (fun _ => ?_)
        refine mS_lety (fun y4 => ?_)
        refine mS_steps (pc' := 63) (ls' := [.ref 279, .int a1, .int a2, .int a3, .int a4, .int (0 : Int32), mU, mU, mU]) (st' := []) (mem' := (mk x y4)) 2 rfl ?_
        refine f_X11_laysWays_L63_snd a1 a2 a3 a4 x _ ?_ mF (0 : Int32) y4
        · intro y18
          refine mS_steps (pc' := 28) (ls' := [.ref 279, .int a1, .int a2, .int a3, .int (a4 + (1 : Int32)), mU, mU, mU, mU]) (st' := []) (mem' := (mk x y18)) 2 rfl ?_
          exact ih (a4 + (1 : Int32)) y18
      intro j2 hj2
      refine mS_if1 rfl (fun _ => ?_) (fun _ => ?_)
      · refine mS_steps (pc' := 50) (ls' := [.ref 279, .int a1, .int a2, .int a3, .int a4, mU, mU, mU, mU]) (st' := [.int a2, .int a1, .ref 279, .int a4, .ref 312]) (mem' := (mk x y)) 3 rfl ?_
        refine mS_bind (fun q19 hq19 => mS_call 245 3 [.ref 279, .int a1, .int a2] [.int a4, .ref 312] rfl rfl rfl ⟨_, _, _, rfl, rfl⟩ (Nat.le_of_ble_eq_true rfl) (Nat.le_of_ble_eq_true rfl) hq19 (f_X11_costOf_snd a1 a2 y x) ?_)
        refine mS_steps (pc' := 59) (ls' := [.ref 279, .int a1, .int a2, .int a3, .int a4, mU, mU, mU, mU]) (st' := [.int q19, .int a4, .ref 312]) (mem' := (mk x y)) 1 rfl ?_
        exact hj2 q19
      · refine mS_steps (pc' := 59) (ls' := [.ref 279, .int a1, .int a2, .int a3, .int a4, mU, mU, mU, mU]) (st' := [.int (1000000 : Int32), .int a4, .ref 312]) (mem' := (mk x y)) 1 rfl ?_
        exact hj2 (1000000 : Int32)
set_option maxRecDepth 20000 in
set_option maxHeartbeats 2000000 in
theorem f_X11_laysWays_snd {fm : Value} {L : Nat} {xs : Nat → Int32} (p1 : Int32) (p2 : Int32) (y : mY) (x : mX) : mS fm L xs (fun r : mY => (mU, mk x r)) pg_X11_laysWays 0 (m_entry [.ref 279, .int p1, .int p2] 9) [] (mk x y) ((f_X11_laysWays p1 p2 y)) := by
  unfold f_X11_laysWays
  refine mS_steps (pc' := 0) (ls' := [.ref 279, .int p1, .int p2, mU, mU, mU, mU, mU, mU]) (st' := []) (mem' := (mk x y)) 0 rfl ?_
  refine mS_steps (pc' := 2) (ls' := [.ref 279, .int p1, .int p2, mU, mU, mU, mU, mU, mU]) (st' := [.int (0 : Int32), .ref 279]) (mem' := (mk x y)) 2 rfl ?_
  refine mS_bind (fun q1 hq1 => mS_call 143 2 [.ref 279, .int (0 : Int32)] [] rfl rfl rfl ⟨_, _, _, rfl, rfl⟩ (Nat.le_of_ble_eq_true rfl) (Nat.le_of_ble_eq_true rfl) hq1 (f_X11_laysNet_snd (0 : Int32) y x) ?_)
  refine mS_steps (pc' := 11) (ls' := [.ref 279, .int p1, .int p2, mU, mU, mU, mU, mU, mU]) (st' := [.int (0 : Int32), .ref 289]) (mem' := (mk x q1.2)) 4 rfl ?_
  refine mS_aldc (b := 0) (n := 72) (c := 0) (z := (q1.2.1 289 0)) rfl (by decide) rfl (by decide) (by decide) (by decide) rfl ?_
  refine mS_steps (pc' := 28) (ls' := [.ref 279, .int p1, .int p2, .int (((q1.2.1 289 0) &&& (((1 : Int32) <<< (p1 &&& 31)) ^^^ (-1 : Int32))) &&& (((1 : Int32) <<< (p2 &&& 31)) ^^^ (-1 : Int32))), .int (0 : Int32), mU, mU, mU, mU]) (st' := []) (mem' := (mk x q1.2)) 15 rfl ?_
  refine f_X11_laysWays_L28_snd p1 p2 (((q1.2.1 289 0) &&& (((1 : Int32) <<< (p1 &&& 31)) ^^^ (-1 : Int32))) &&& (((1 : Int32) <<< (p2 &&& 31)) ^^^ (-1 : Int32))) x mF (0 : Int32) q1.2
def f_X11_cheap_L24 : Nat → Int32 → Int32 → mY → Option (Int32 × mY)
  | 0, _, _, _ => none
  | n + 1, a3, a4, y => (if (256 : Int32) ≤ a4 then (if (1000000 : Int32) ≤ a3 then (some ((-2 : Int32), y)) else (some (a3, y))) else (if m_in a4 256 = true then (if a3 ≤ (y.1 312 a4.toNatClampNeg) then (f_X11_cheap_L24 n a3 (a4 + (1 : Int32)) y) else (if m_in a4 256 = true then (f_X11_cheap_L24 n (y.1 312 a4.toNatClampNeg) (a4 + (1 : Int32)) y) else none)) else none))
def f_X11_cheap (p1 : Int32) (p2 : Int32) (y : mY) : Option (Int32 × mY) := ((f_X11_canSend p1 p2 y).bind fun q1 => (if q1 = 0 then (some ((-1 : Int32), y)) else ((f_X11_laysWays p1 p2 y).bind fun q2 => (f_X11_cheap_L24 mF (1000000 : Int32) (0 : Int32) q2))))
set_option maxRecDepth 20000 in
set_option maxHeartbeats 2000000 in
theorem f_X11_cheap_L24_snd {fm : Value} {L : Nat} {xs : Nat → Int32} (y : mY) (x : mX) : ∀ (n : Nat) (a3 : Int32) (a4 : Int32), mS fm L xs (fun r : (Int32 × mY) => (.int r.1, mk x r.2)) pg_X11_cheap 24 [.ref 279, mU, mU, .int a3, .int a4] [] (mk x y) (f_X11_cheap_L24 n a3 a4 y) := by
  intro n
  induction n with
  | zero => intro a3 a4; exact mS_none
  | succ n ih =>
    intro a3 a4
    rw [f_X11_cheap_L24]
    refine mS_steps (pc' := 29) (ls' := [.ref 279, mU, mU, .int a3, .int a4]) (st' := [.int (256 : Int32), .int a4]) (mem' := (mk x y)) 2 rfl ?_
    refine mS_ic3 rfl (fun _ => ?_) (fun _ => ?_)
    · refine mS_steps (pc' := 61) (ls' := [.ref 279, mU, mU, .int a3, .int a4]) (st' := [.int (1000000 : Int32), .int a3]) (mem' := (mk x y)) 2 rfl ?_
      refine mS_ic3 rfl (fun _ => ?_) (fun _ => ?_)
      · refine mS_steps (pc' := 70) (ls' := [.ref 279, mU, mU, .int a3, .int a4]) (st' := [.int (-2 : Int32)]) (mem' := (mk x y)) 1 rfl ?_
        exact mS_reti ⟨_, _, _, _, _, rfl, rfl⟩ rfl
      · refine mS_steps (pc' := 70) (ls' := [.ref 279, mU, mU, .int a3, .int a4]) (st' := [.int a3]) (mem' := (mk x y)) 2 rfl ?_
        exact mS_reti ⟨_, _, _, _, _, rfl, rfl⟩ rfl
    · refine mS_steps (pc' := 38) (ls' := [.ref 279, mU, mU, .int a3, .int a4]) (st' := [.int a4, .ref 312]) (mem' := (mk x y)) 3 rfl ?_
      refine mS_ald (b := 0) (n := 256) (z := (y.1 312 a4.toNatClampNeg)) rfl (by decide) rfl (by decide) rfl (fun _ => ?_)
      refine mS_steps (pc' := 40) (ls' := [.ref 279, mU, mU, .int a3, .int a4]) (st' := [.int a3, .int (y.1 312 a4.toNatClampNeg)]) (mem' := (mk x y)) 1 rfl ?_
      refine mS_ic3 rfl (fun _ => ?_) (fun _ => ?_)
      · refine mS_steps (pc' := 24) (ls' := [.ref 279, mU, mU, .int a3, .int (a4 + (1 : Int32))]) (st' := []) (mem' := (mk x y)) 2 rfl ?_
        exact ih a3 (a4 + (1 : Int32))
      · refine mS_steps (pc' := 49) (ls' := [.ref 279, mU, mU, .int a3, .int a4]) (st' := [.int a4, .ref 312]) (mem' := (mk x y)) 3 rfl ?_
        refine mS_ald (b := 0) (n := 256) (z := (y.1 312 a4.toNatClampNeg)) rfl (by decide) rfl (by decide) rfl (fun _ => ?_)
        refine mS_steps (pc' := 24) (ls' := [.ref 279, mU, mU, .int (y.1 312 a4.toNatClampNeg), .int (a4 + (1 : Int32))]) (st' := []) (mem' := (mk x y)) 3 rfl ?_
        exact ih (y.1 312 a4.toNatClampNeg) (a4 + (1 : Int32))
set_option maxRecDepth 20000 in
set_option maxHeartbeats 2000000 in
theorem f_X11_cheap_snd {fm : Value} {L : Nat} {xs : Nat → Int32} (p1 : Int32) (p2 : Int32) (y : mY) (x : mX) : mS fm L xs (fun r : (Int32 × mY) => (.int r.1, mk x r.2)) pg_X11_cheap 0 (m_entry [.ref 279, .int p1, .int p2] 5) [] (mk x y) ((f_X11_cheap p1 p2 y)) := by
  unfold f_X11_cheap
  refine mS_steps (pc' := 0) (ls' := [.ref 279, .int p1, .int p2, mU, mU]) (st' := []) (mem' := (mk x y)) 0 rfl ?_
  refine mS_steps (pc' := 3) (ls' := [.ref 279, .int p1, .int p2, mU, mU]) (st' := [.int p2, .int p1, .ref 279]) (mem' := (mk x y)) 3 rfl ?_
  refine mS_bind (fun q1 hq1 => mS_call 141 3 [.ref 279, .int p1, .int p2] [] rfl rfl rfl ⟨_, _, _, rfl, rfl⟩ (Nat.le_of_ble_eq_true rfl) (Nat.le_of_ble_eq_true rfl) hq1 (f_X11_canSend_snd p1 p2 y x) ?_)
  refine mS_steps (pc' := 6) (ls' := [.ref 279, .int p1, .int p2, mU, mU]) (st' := [.int q1]) (mem' := (mk x y)) 0 rfl ?_
  refine mS_if1 rfl (fun _ => ?_) (fun _ => ?_)
  · refine mS_steps (pc' := 10) (ls' := [.ref 279, .int p1, .int p2, mU, mU]) (st' := [.int (-1 : Int32)]) (mem' := (mk x y)) 1 rfl ?_
    exact mS_reti ⟨_, _, _, _, _, rfl, rfl⟩ rfl
  · refine mS_steps (pc' := 14) (ls' := [.ref 279, .int p1, .int p2, mU, mU]) (st' := [.int p2, .int p1, .ref 279]) (mem' := (mk x y)) 3 rfl ?_
    refine mS_bind (fun q2 hq2 => mS_call 246 3 [.ref 279, .int p1, .int p2] [] rfl rfl rfl ⟨_, _, _, rfl, rfl⟩ (Nat.le_of_ble_eq_true rfl) (Nat.le_of_ble_eq_true rfl) hq2 (f_X11_laysWays_snd p1 p2 y x) ?_)
    refine mS_steps (pc' := 24) (ls' := [.ref 279, .int p1, .int p2, .int (1000000 : Int32), .int (0 : Int32)]) (st' := []) (mem' := (mk x q2)) 4 rfl ?_
    refine mS_forget [.ref 279, mU, mU, .int (1000000 : Int32), .int (0 : Int32)] ⟨Or.inr rfl, Or.inl rfl, Or.inl rfl, Or.inr rfl, Or.inr rfl, trivial⟩ ?_
    refine f_X11_cheap_L24_snd q2 x mF (1000000 : Int32) (0 : Int32)
def f_X4_cheapestTwo_L91 (a2 : Int32) (a3 : Int32) (a4 : Int32) (a5 : Int32) (a6 : Int32) : Nat → Int32 → Int32 → mX → Option (Int32 × mX)
  | 0, _, _, _ => none
  | n + 1, a8, a9, x => (if (256 : Int32) ≤ a9 then (some (a8, x)) else (if (a9 &&& (a5 ^^^ (-1 : Int32))) = 0 then (if (a5 &&& (a9 ^^^ (-1 : Int32))) ≤ a9 then (f_X4_cheapestTwo_L91 a2 a3 a4 a5 a6 n a8 (a9 + (1 : Int32)) x) else ((f_X4_cheapest a6 a2 a3 (a9 ||| a4) x).bind fun q7 => (if a8 ≤ q7.1 then (f_X4_cheapestTwo_L91 a2 a3 a4 a5 a6 n a8 (a9 + (1 : Int32)) q7.2) else ((f_X4_cheapest a6 a2 a3 ((a5 &&& (a9 ^^^ (-1 : Int32))) ||| a4) q7.2).bind fun q8 => (f_X4_cheapestTwo_L91 a2 a3 a4 a5 a6 n (if (q7.1 + q8.1) < a8 then (q7.1 + q8.1) else a8) (a9 + (1 : Int32)) q8.2))))) else (f_X4_cheapestTwo_L91 a2 a3 a4 a5 a6 n a8 (a9 + (1 : Int32)) x)))
def f_X4_cheapestTwo (p2 : Int32) (p3 : Int32) (x : mX) : Option (Int32 × mX) := ((f_X6_live 14 x).bind fun q1 => ((f_X6_between 14 p2 p3 x).bind fun q2 => (m_jn (fun (z : Int32 × Int32 × mX) => match z with | (v4, v5, x6) => (f_X4_cheapestTwo_L91 p2 p3 (((1 : Int32) <<< (p2 &&& 31)) ||| ((1 : Int32) <<< (p3 &&& 31))) ((x.1 14 2) &&& ((((1 : Int32) <<< (p2 &&& 31)) ||| ((1 : Int32) <<< (p3 &&& 31))) ^^^ (-1 : Int32))) v4 mF v5 (0 : Int32) x6)) (fun j3 => if q2 = (-1 : Int32) then (j3 (q1, (1000000 : Int32), x)) else (if (f_X10_has q1 q2) = 0 then (j3 (q1, (1000000 : Int32), x)) else (if m_in q2 16 = true then ((f_X4_cheapest (q1 &&& (((1 : Int32) <<< (q2 &&& 31)) ^^^ (-1 : Int32))) p2 p3 (x.1 14 2) x).bind fun q9 => (j3 ((q1 &&& (((1 : Int32) <<< (q2 &&& 31)) ^^^ (-1 : Int32))), ((x.1 17 q2.toNatClampNeg) + q9.1), q9.2))) else none))))))
set_option maxRecDepth 20000 in
set_option maxHeartbeats 2000000 in
theorem f_X4_cheapestTwo_L91_snd {fm : Value} {L : Nat} {xs : Nat → Int32} (a2 : Int32) (a3 : Int32) (a4 : Int32) (a5 : Int32) (a6 : Int32) (y : mY) : ∀ (n : Nat) (a8 : Int32) (a9 : Int32) (x : mX), mS fm L xs (fun r : (Int32 × mX) => (.int r.1, mk r.2 y)) pg_X4_cheapestTwo 91 [.ref 254, .ref 14, .int a2, .int a3, .int a4, .int a5, .int a6, mU, .int a8, .int a9, mU, mU] [] (mk x y) (f_X4_cheapestTwo_L91 a2 a3 a4 a5 a6 n a8 a9 x) := by
  intro n
  induction n with
  | zero => intro a8 a9 x; exact mS_none
  | succ n ih =>
    intro a8 a9 x
    rw [f_X4_cheapestTwo_L91]
    refine mS_steps (pc' := 96) (ls' := [.ref 254, .ref 14, .int a2, .int a3, .int a4, .int a5, .int a6, mU, .int a8, .int a9, mU, mU]) (st' := [.int (256 : Int32), .int a9]) (mem' := (mk x y)) 2 rfl ?_
    refine mS_ic3 rfl (fun _ => ?_) (fun _ => ?_)
    · refine mS_steps (pc' := 180) (ls' := [.ref 254, .ref 14, .int a2, .int a3, .int a4, .int a5, .int a6, mU, .int a8, .int a9, mU, mU]) (st' := [.int a8]) (mem' := (mk x y)) 1 rfl ?_
      exact mS_reti ⟨_, _, _, _, _, rfl, rfl⟩ rfl
    · refine mS_steps (pc' := 115) (ls' := [.ref 254, .ref 14, .int a2, .int a3, .int a4, .int a5, .int a6, mU, .int a8, .int a9, .int (a5 &&& (a9 ^^^ (-1 : Int32))), mU]) (st' := [.int (a9 &&& (a5 ^^^ (-1 : Int32)))]) (mem' := (mk x y)) 11 rfl ?_
      refine mS_if1 rfl (fun _ => ?_) (fun _ => ?_)
      · refine mS_steps (pc' := 122) (ls' := [.ref 254, .ref 14, .int a2, .int a3, .int a4, .int a5, .int a6, mU, .int a8, .int a9, .int (a5 &&& (a9 ^^^ (-1 : Int32))), mU]) (st' := [.int (a5 &&& (a9 ^^^ (-1 : Int32))), .int a9]) (mem' := (mk x y)) 2 rfl ?_
        refine mS_ic3 rfl (fun _ => ?_) (fun _ => ?_)
        · refine mS_steps (pc' := 91) (ls' := [.ref 254, .ref 14, .int a2, .int a3, .int a4, .int a5, .int a6, mU, .int a8, .int (a9 + (1 : Int32)), .int (a5 &&& (a9 ^^^ (-1 : Int32))), mU]) (st' := []) (mem' := (mk x y)) 2 rfl ?_
          refine mS_forget [.ref 254, .ref 14, .int a2, .int a3, .int a4, .int a5, .int a6, mU, .int a8, .int (a9 + (1 : Int32)), mU, mU] ⟨Or.inr rfl, Or.inr rfl, Or.inr rfl, Or.inr rfl, Or.inr rfl, Or.inr rfl, Or.inr rfl, Or.inl rfl, Or.inr rfl, Or.inr rfl, Or.inl rfl, Or.inl rfl, trivial⟩ ?_
          exact ih a8 (a9 + (1 : Int32)) x
        · refine mS_steps (pc' := 136) (ls' := [.ref 254, .ref 14, .int a2, .int a3, .int a4, .int a5, .int a6, mU, .int a8, .int a9, .int (a5 &&& (a9 ^^^ (-1 : Int32))), mU]) (st' := [.int (a9 ||| a4), .int a3, .int a2, .int a6, .ref 14, .ref 254]) (mem' := (mk x y)) 8 rfl ?_
          refine mS_bind (fun q7 hq7 => mS_call 243 6 [.ref 254, .ref 14, .int a6, .int a2, .int a3, .int (a9 ||| a4)] [] rfl rfl rfl ⟨_, _, _, rfl, rfl⟩ (Nat.le_of_ble_eq_true rfl) (Nat.le_of_ble_eq_true rfl) hq7 (f_X4_cheapest_snd a6 a2 a3 (a9 ||| a4) x y) ?_)
          refine mS_steps (pc' := 145) (ls' := [.ref 254, .ref 14, .int a2, .int a3, .int a4, .int a5, .int a6, mU, .int a8, .int a9, .int (a5 &&& (a9 ^^^ (-1 : Int32))), .int q7.1]) (st' := [.int a8, .int q7.1]) (mem' := (mk q7.2 y)) 3 rfl ?_
          refine mS_ic3 rfl (fun _ => ?_) (fun _ => ?_)
          · refine mS_steps (pc' := 91) (ls' := [.ref 254, .ref 14, .int a2, .int a3, .int a4, .int a5, .int a6, mU, .int a8, .int (a9 + (1 : Int32)), .int (a5 &&& (a9 ^^^ (-1 : Int32))), .int q7.1]) (st' := []) (mem' := (mk q7.2 y)) 2 rfl ?_
            refine mS_forget [.ref 254, .ref 14, .int a2, .int a3, .int a4, .int a5, .int a6, mU, .int a8, .int (a9 + (1 : Int32)), mU, mU] ⟨Or.inr rfl, Or.inr rfl, Or.inr rfl, Or.inr rfl, Or.inr rfl, Or.inr rfl, Or.inr rfl, Or.inl rfl, Or.inr rfl, Or.inr rfl, Or.inl rfl, Or.inl rfl, trivial⟩ ?_
            exact ih a8 (a9 + (1 : Int32)) q7.2
          · refine mS_steps (pc' := 163) (ls' := [.ref 254, .ref 14, .int a2, .int a3, .int a4, .int a5, .int a6, mU, .int a8, .int a9, .int (a5 &&& (a9 ^^^ (-1 : Int32))), .int q7.1]) (st' := [.int ((a5 &&& (a9 ^^^ (-1 : Int32))) ||| a4), .int a3, .int a2, .int a6, .ref 14, .ref 254, .int q7.1, .int a8]) (mem' := (mk q7.2 y)) 10 rfl ?_
            refine mS_bind (fun q8 hq8 => mS_call 243 6 [.ref 254, .ref 14, .int a6, .int a2, .int a3, .int ((a5 &&& (a9 ^^^ (-1 : Int32))) ||| a4)] [.int q7.1, .int a8] rfl rfl rfl ⟨_, _, _, rfl, rfl⟩ (Nat.le_of_ble_eq_true rfl) (Nat.le_of_ble_eq_true rfl) hq8 (f_X4_cheapest_snd a6 a2 a3 ((a5 &&& (a9 ^^^ (-1 : Int32))) ||| a4) q7.2 y) ?_)
            refine mS_steps (pc' := 91) (ls' := [.ref 254, .ref 14, .int a2, .int a3, .int a4, .int a5, .int a6, mU, .int (if (q7.1 + q8.1) < a8 then (q7.1 + q8.1) else a8), .int (a9 + (1 : Int32)), .int (a5 &&& (a9 ^^^ (-1 : Int32))), .int q7.1]) (st' := []) (mem' := (mk q8.2 y)) 5 rfl ?_
            refine mS_forget [.ref 254, .ref 14, .int a2, .int a3, .int a4, .int a5, .int a6, mU, .int (if (q7.1 + q8.1) < a8 then (q7.1 + q8.1) else a8), .int (a9 + (1 : Int32)), mU, mU] ⟨Or.inr rfl, Or.inr rfl, Or.inr rfl, Or.inr rfl, Or.inr rfl, Or.inr rfl, Or.inr rfl, Or.inl rfl, Or.inr rfl, Or.inr rfl, Or.inl rfl, Or.inl rfl, trivial⟩ ?_
            exact ih (if (q7.1 + q8.1) < a8 then (q7.1 + q8.1) else a8) (a9 + (1 : Int32)) q8.2
      · refine mS_steps (pc' := 91) (ls' := [.ref 254, .ref 14, .int a2, .int a3, .int a4, .int a5, .int a6, mU, .int a8, .int (a9 + (1 : Int32)), .int (a5 &&& (a9 ^^^ (-1 : Int32))), mU]) (st' := []) (mem' := (mk x y)) 2 rfl ?_
        refine mS_forget [.ref 254, .ref 14, .int a2, .int a3, .int a4, .int a5, .int a6, mU, .int a8, .int (a9 + (1 : Int32)), mU, mU] ⟨Or.inr rfl, Or.inr rfl, Or.inr rfl, Or.inr rfl, Or.inr rfl, Or.inr rfl, Or.inr rfl, Or.inl rfl, Or.inr rfl, Or.inr rfl, Or.inl rfl, Or.inl rfl, trivial⟩ ?_
        exact ih a8 (a9 + (1 : Int32)) x
set_option maxRecDepth 20000 in
set_option maxHeartbeats 2000000 in
theorem f_X4_cheapestTwo_snd {fm : Value} {L : Nat} {xs : Nat → Int32} (p2 : Int32) (p3 : Int32) (x : mX) (y : mY) : mS fm L xs (fun r : (Int32 × mX) => (.int r.1, mk r.2 y)) pg_X4_cheapestTwo 0 (m_entry [.ref 254, .ref 14, .int p2, .int p3] 12) [] (mk x y) ((f_X4_cheapestTwo p2 p3 x)) := by
  unfold f_X4_cheapestTwo
  refine mS_steps (pc' := 0) (ls' := [.ref 254, .ref 14, .int p2, .int p3, mU, mU, mU, mU, mU, mU, mU, mU]) (st' := []) (mem' := (mk x y)) 0 rfl ?_
  refine mS_steps (pc' := 21) (ls' := [.ref 254, .ref 14, .int p2, .int p3, .int (((1 : Int32) <<< (p2 &&& 31)) ||| ((1 : Int32) <<< (p3 &&& 31))), .int ((x.1 14 2) &&& ((((1 : Int32) <<< (p2 &&& 31)) ||| ((1 : Int32) <<< (p3 &&& 31))) ^^^ (-1 : Int32))), mU, mU, mU, mU, mU, mU]) (st' := [.ref 14]) (mem' := (mk x y)) 16 rfl ?_
  refine mS_bind (fun q1 hq1 => mS_call 61 1 [.ref 14] [] rfl rfl rfl ⟨_, _, _, rfl, rfl⟩ (Nat.le_of_ble_eq_true rfl) (Nat.le_of_ble_eq_true rfl) hq1 (f_X6_live_14_snd  x y) ?_)
  refine mS_steps (pc' := 29) (ls' := [.ref 254, .ref 14, .int p2, .int p3, .int (((1 : Int32) <<< (p2 &&& 31)) ||| ((1 : Int32) <<< (p3 &&& 31))), .int ((x.1 14 2) &&& ((((1 : Int32) <<< (p2 &&& 31)) ||| ((1 : Int32) <<< (p3 &&& 31))) ^^^ (-1 : Int32))), .int q1, mU, mU, mU, mU, mU]) (st' := [.int p3, .int p2, .ref 14]) (mem' := (mk x y)) 4 rfl ?_
  refine mS_bind (fun q2 hq2 => mS_call 52 3 [.ref 14, .int p2, .int p3] [] rfl rfl rfl ⟨_, _, _, rfl, rfl⟩ (Nat.le_of_ble_eq_true rfl) (Nat.le_of_ble_eq_true rfl) hq2 (f_X6_between_14_snd p2 p3 x y) ?_)
  refine mS_steps (pc' := 41) (ls' := [.ref 254, .ref 14, .int p2, .int p3, .int (((1 : Int32) <<< (p2 &&& 31)) ||| ((1 : Int32) <<< (p3 &&& 31))), .int ((x.1 14 2) &&& ((((1 : Int32) <<< (p2 &&& 31)) ||| ((1 : Int32) <<< (p3 &&& 31))) ^^^ (-1 : Int32))), .int q1, .int q2, .int (1000000 : Int32), mU, mU, mU]) (st' := [.int (-1 : Int32), .int q2]) (mem' := (mk x y)) 5 rfl ?_
  refine mS_jn (fun j => ∀ z : Int32 × Int32 × mX, mS fm L xs (fun r : (Int32 × mX) => (.int r.1, mk r.2 y)) pg_X4_cheapestTwo 88 [.ref 254, .ref 14, .int p2, .int p3, .int (((1 : Int32) <<< (p2 &&& 31)) ||| ((1 : Int32) <<< (p3 &&& 31))), .int ((x.1 14 2) &&& ((((1 : Int32) <<< (p2 &&& 31)) ||| ((1 : Int32) <<< (p3 &&& 31))) ^^^ (-1 : Int32))), .int z.1, mU, .int z.2.1, mU, mU, mU] [] (mk z.2.2 y) (j z)) ?_ ?_
  · intro z
    obtain ⟨v4, v5, x6⟩ := z
    refine mS_steps (pc' := 91) (ls' := [.ref 254, .ref 14, .int p2, .int p3, .int (((1 : Int32) <<< (p2 &&& 31)) ||| ((1 : Int32) <<< (p3 &&& 31))), .int ((x.1 14 2) &&& ((((1 : Int32) <<< (p2 &&& 31)) ||| ((1 : Int32) <<< (p3 &&& 31))) ^^^ (-1 : Int32))), .int v4, mU, .int v5, .int (0 : Int32), mU, mU]) (st' := []) (mem' := (mk x6 y)) 2 rfl ?_
    refine f_X4_cheapestTwo_L91_snd p2 p3 (((1 : Int32) <<< (p2 &&& 31)) ||| ((1 : Int32) <<< (p3 &&& 31))) ((x.1 14 2) &&& ((((1 : Int32) <<< (p2 &&& 31)) ||| ((1 : Int32) <<< (p3 &&& 31))) ^^^ (-1 : Int32))) v4 y mF v5 (0 : Int32) x6
  intro j3 hj3
  refine mS_ic0 rfl (fun _ => ?_) (fun _ => ?_)
  · refine mS_forget [.ref 254, .ref 14, .int p2, .int p3, .int (((1 : Int32) <<< (p2 &&& 31)) ||| ((1 : Int32) <<< (p3 &&& 31))), .int ((x.1 14 2) &&& ((((1 : Int32) <<< (p2 &&& 31)) ||| ((1 : Int32) <<< (p3 &&& 31))) ^^^ (-1 : Int32))), .int q1, mU, .int (1000000 : Int32), mU, mU, mU] ⟨Or.inr rfl, Or.inr rfl, Or.inr rfl, Or.inr rfl, Or.inr rfl, Or.inr rfl, Or.inr rfl, Or.inl rfl, Or.inr rfl, Or.inl rfl, Or.inl rfl, Or.inl rfl, trivial⟩ ?_
    exact hj3 (q1, (1000000 : Int32), x)
  · refine mS_steps (pc' := 48) (ls' := [.ref 254, .ref 14, .int p2, .int p3, .int (((1 : Int32) <<< (p2 &&& 31)) ||| ((1 : Int32) <<< (p3 &&& 31))), .int ((x.1 14 2) &&& ((((1 : Int32) <<< (p2 &&& 31)) ||| ((1 : Int32) <<< (p3 &&& 31))) ^^^ (-1 : Int32))), .int q1, .int q2, .int (1000000 : Int32), mU, mU, mU]) (st' := [.int q2, .int q1]) (mem' := (mk x y)) 2 rfl ?_
    refine mS_call (q := (f_X10_has q1 q2)) 57 2 [.int q1, .int q2] [] rfl rfl rfl ⟨_, _, _, rfl, rfl⟩ (Nat.le_of_ble_eq_true rfl) (Nat.le_of_ble_eq_true rfl) rfl (f_X10_has_snd q1 q2 (mk x y)) ?_
    refine mS_steps (pc' := 51) (ls' := [.ref 254, .ref 14, .int p2, .int p3, .int (((1 : Int32) <<< (p2 &&& 31)) ||| ((1 : Int32) <<< (p3 &&& 31))), .int ((x.1 14 2) &&& ((((1 : Int32) <<< (p2 &&& 31)) ||| ((1 : Int32) <<< (p3 &&& 31))) ^^^ (-1 : Int32))), .int q1, .int q2, .int (1000000 : Int32), mU, mU, mU]) (st' := [.int (f_X10_has q1 q2)]) (mem' := (mk x y)) 0 rfl ?_
    refine mS_if0 rfl (fun _ => ?_) (fun _ => ?_)
    · refine mS_forget [.ref 254, .ref 14, .int p2, .int p3, .int (((1 : Int32) <<< (p2 &&& 31)) ||| ((1 : Int32) <<< (p3 &&& 31))), .int ((x.1 14 2) &&& ((((1 : Int32) <<< (p2 &&& 31)) ||| ((1 : Int32) <<< (p3 &&& 31))) ^^^ (-1 : Int32))), .int q1, mU, .int (1000000 : Int32), mU, mU, mU] ⟨Or.inr rfl, Or.inr rfl, Or.inr rfl, Or.inr rfl, Or.inr rfl, Or.inr rfl, Or.inr rfl, Or.inl rfl, Or.inr rfl, Or.inl rfl, Or.inl rfl, Or.inl rfl, trivial⟩ ?_
      exact hj3 (q1, (1000000 : Int32), x)
    · refine mS_steps (pc' := 71) (ls' := [.ref 254, .ref 14, .int p2, .int p3, .int (((1 : Int32) <<< (p2 &&& 31)) ||| ((1 : Int32) <<< (p3 &&& 31))), .int ((x.1 14 2) &&& ((((1 : Int32) <<< (p2 &&& 31)) ||| ((1 : Int32) <<< (p3 &&& 31))) ^^^ (-1 : Int32))), .int (q1 &&& (((1 : Int32) <<< (q2 &&& 31)) ^^^ (-1 : Int32))), .int q2, .int (1000000 : Int32), mU, mU, mU]) (st' := [.int q2, .ref 17]) (mem' := (mk x y)) 11 rfl ?_
      refine mS_ald (b := 0) (n := 16) (z := (x.1 17 q2.toNatClampNeg)) rfl (by decide) rfl (by decide) rfl (fun _ => ?_)
      refine mS_steps (pc' := 82) (ls' := [.ref 254, .ref 14, .int p2, .int p3, .int (((1 : Int32) <<< (p2 &&& 31)) ||| ((1 : Int32) <<< (p3 &&& 31))), .int ((x.1 14 2) &&& ((((1 : Int32) <<< (p2 &&& 31)) ||| ((1 : Int32) <<< (p3 &&& 31))) ^^^ (-1 : Int32))), .int (q1 &&& (((1 : Int32) <<< (q2 &&& 31)) ^^^ (-1 : Int32))), .int q2, .int (1000000 : Int32), mU, mU, mU]) (st' := [.int (x.1 14 2), .int p3, .int p2, .int (q1 &&& (((1 : Int32) <<< (q2 &&& 31)) ^^^ (-1 : Int32))), .ref 14, .ref 254, .int (x.1 17 q2.toNatClampNeg)]) (mem' := (mk x y)) 7 rfl ?_
      refine mS_bind (fun q9 hq9 => mS_call 243 6 [.ref 254, .ref 14, .int (q1 &&& (((1 : Int32) <<< (q2 &&& 31)) ^^^ (-1 : Int32))), .int p2, .int p3, .int (x.1 14 2)] [.int (x.1 17 q2.toNatClampNeg)] rfl rfl rfl ⟨_, _, _, rfl, rfl⟩ (Nat.le_of_ble_eq_true rfl) (Nat.le_of_ble_eq_true rfl) hq9 (f_X4_cheapest_snd (q1 &&& (((1 : Int32) <<< (q2 &&& 31)) ^^^ (-1 : Int32))) p2 p3 (x.1 14 2) x y) ?_)
      refine mS_steps (pc' := 88) (ls' := [.ref 254, .ref 14, .int p2, .int p3, .int (((1 : Int32) <<< (p2 &&& 31)) ||| ((1 : Int32) <<< (p3 &&& 31))), .int ((x.1 14 2) &&& ((((1 : Int32) <<< (p2 &&& 31)) ||| ((1 : Int32) <<< (p3 &&& 31))) ^^^ (-1 : Int32))), .int (q1 &&& (((1 : Int32) <<< (q2 &&& 31)) ^^^ (-1 : Int32))), .int q2, .int ((x.1 17 q2.toNatClampNeg) + q9.1), mU, mU, mU]) (st' := []) (mem' := (mk q9.2 y)) 2 rfl ?_
      refine mS_forget [.ref 254, .ref 14, .int p2, .int p3, .int (((1 : Int32) <<< (p2 &&& 31)) ||| ((1 : Int32) <<< (p3 &&& 31))), .int ((x.1 14 2) &&& ((((1 : Int32) <<< (p2 &&& 31)) ||| ((1 : Int32) <<< (p3 &&& 31))) ^^^ (-1 : Int32))), .int (q1 &&& (((1 : Int32) <<< (q2 &&& 31)) ^^^ (-1 : Int32))), mU, .int ((x.1 17 q2.toNatClampNeg) + q9.1), mU, mU, mU] ⟨Or.inr rfl, Or.inr rfl, Or.inr rfl, Or.inr rfl, Or.inr rfl, Or.inr rfl, Or.inr rfl, Or.inl rfl, Or.inr rfl, Or.inl rfl, Or.inl rfl, Or.inl rfl, trivial⟩ ?_
      exact hj3 ((q1 &&& (((1 : Int32) <<< (q2 &&& 31)) ^^^ (-1 : Int32))), ((x.1 17 q2.toNatClampNeg) + q9.1), q9.2)
def f_X10_pair (p1 : Int32) (p2 : Int32) (x : mX) : Option (Int32 × mX) := (if (f_X10_canSend p1 p2 x) = 0 then (some ((-1 : Int32), x)) else ((f_X4_cheapestTwo p1 p2 x).bind fun q1 => (if q1.1 < (1000000 : Int32) then (some (q1.1, q1.2)) else (some ((-2 : Int32), q1.2)))))
set_option maxRecDepth 20000 in
set_option maxHeartbeats 2000000 in
theorem f_X10_pair_snd {fm : Value} {L : Nat} {xs : Nat → Int32} (p1 : Int32) (p2 : Int32) (x : mX) (y : mY) : mS fm L xs (fun r : (Int32 × mX) => (.int r.1, mk r.2 y)) pg_X10_pair 0 (m_entry [.ref 0, .int p1, .int p2] 4) [] (mk x y) ((f_X10_pair p1 p2 x)) := by
  unfold f_X10_pair
  refine mS_steps (pc' := 0) (ls' := [.ref 0, .int p1, .int p2, mU]) (st' := []) (mem' := (mk x y)) 0 rfl ?_
  refine mS_steps (pc' := 3) (ls' := [.ref 0, .int p1, .int p2, mU]) (st' := [.int p2, .int p1, .ref 0]) (mem' := (mk x y)) 3 rfl ?_
  refine mS_call (q := (f_X10_canSend p1 p2 x)) 111 3 [.ref 0, .int p1, .int p2] [] rfl rfl rfl ⟨_, _, _, rfl, rfl⟩ (Nat.le_of_ble_eq_true rfl) (Nat.le_of_ble_eq_true rfl) rfl (f_X10_canSend_snd p1 p2 x y) ?_
  refine mS_steps (pc' := 6) (ls' := [.ref 0, .int p1, .int p2, mU]) (st' := [.int (f_X10_canSend p1 p2 x)]) (mem' := (mk x y)) 0 rfl ?_
  refine mS_if1 rfl (fun _ => ?_) (fun _ => ?_)
  · refine mS_steps (pc' := 10) (ls' := [.ref 0, .int p1, .int p2, mU]) (st' := [.int (-1 : Int32)]) (mem' := (mk x y)) 1 rfl ?_
    exact mS_reti ⟨_, _, _, _, _, rfl, rfl⟩ rfl
  · refine mS_steps (pc' := 21) (ls' := [.ref 0, .int p1, .int p2, mU]) (st' := [.int p2, .int p1, .ref 14, .ref 254]) (mem' := (mk x y)) 6 rfl ?_
    refine mS_bind (fun q1 hq1 => mS_call 248 4 [.ref 254, .ref 14, .int p1, .int p2] [] rfl rfl rfl ⟨_, _, _, rfl, rfl⟩ (Nat.le_of_ble_eq_true rfl) (Nat.le_of_ble_eq_true rfl) hq1 (f_X4_cheapestTwo_snd p1 p2 x y) ?_)
    refine mS_steps (pc' := 29) (ls' := [.ref 0, .int p1, .int p2, .int q1.1]) (st' := [.int (1000000 : Int32), .int q1.1]) (mem' := (mk q1.2 y)) 3 rfl ?_
    refine mS_ic2 rfl (fun _ => ?_) (fun _ => ?_)
    · refine mS_steps (pc' := 38) (ls' := [.ref 0, .int p1, .int p2, .int q1.1]) (st' := [.int q1.1]) (mem' := (mk q1.2 y)) 1 rfl ?_
      exact mS_reti ⟨_, _, _, _, _, rfl, rfl⟩ rfl
    · refine mS_steps (pc' := 38) (ls' := [.ref 0, .int p1, .int p2, .int q1.1]) (st' := [.int (-2 : Int32)]) (mem' := (mk q1.2 y)) 2 rfl ?_
      exact mS_reti ⟨_, _, _, _, _, rfl, rfl⟩ rfl
def f_X11_pair_L35 (a4 : Int32) : Nat → Int32 → Int32 → mY → (Int32 → Option (Int32 × mY)) → Option (Int32 × mY)
  | 0, _, _, _, _ => none
  | n + 1, a3, a5, y, k104 => (if a4 ≤ a5 then (k104 a3) else (if m_in a4 256 = true then (if (1000000 : Int32) ≤ (y.1 312 a4.toNatClampNeg) then (k104 a3) else (if (a4 &&& a5) = 0 then (if m_in a4 256 = true then (if m_in a5 256 = true then (if a3 ≤ ((y.1 312 a4.toNatClampNeg) + (y.1 312 a5.toNatClampNeg)) then (f_X11_pair_L35 a4 n a3 (a5 + (1 : Int32)) y k104) else (if m_in a4 256 = true then (if m_in a5 256 = true then (f_X11_pair_L35 a4 n ((y.1 312 a4.toNatClampNeg) + (y.1 312 a5.toNatClampNeg)) (a5 + (1 : Int32)) y k104) else none) else none)) else none) else none) else (f_X11_pair_L35 a4 n a3 (a5 + (1 : Int32)) y k104))) else none))
def f_X11_pair_L24 : Nat → Int32 → Int32 → mY → Option (Int32 × mY)
  | 0, _, _, _ => none
  | n + 1, a3, a4, y => (if (256 : Int32) ≤ a4 then (if (1000000 : Int32) ≤ a3 then (some ((-2 : Int32), y)) else (some (a3, y))) else (f_X11_pair_L35 a4 mF a3 (0 : Int32) y (fun v3 => (f_X11_pair_L24 n v3 (a4 + (1 : Int32)) y))))
def f_X11_pair (p1 : Int32) (p2 : Int32) (y : mY) : Option (Int32 × mY) := ((f_X11_canSend p1 p2 y).bind fun q1 => (if q1 = 0 then (some ((-1 : Int32), y)) else ((f_X11_laysWays p1 p2 y).bind fun q2 => (f_X11_pair_L24 mF (1000000 : Int32) (1 : Int32) q2))))
set_option maxRecDepth 20000 in
set_option maxHeartbeats 2000000 in
theorem f_X11_pair_L35_snd {fm : Value} {L : Nat} {xs : Nat → Int32} (a4 : Int32) (y : mY) (x : mX) (k104 : Int32 → Option (Int32 × mY)) (hk104 : ∀ (b3 : Int32), mS fm L xs (fun r : (Int32 × mY) => (.int r.1, mk x r.2)) pg_X11_pair 104 [.ref 279, mU, mU, .int b3, .int a4, mU] [] (mk x y) (k104 b3)) : ∀ (n : Nat) (a3 : Int32) (a5 : Int32), mS fm L xs (fun r : (Int32 × mY) => (.int r.1, mk x r.2)) pg_X11_pair 35 [.ref 279, mU, mU, .int a3, .int a4, .int a5] [] (mk x y) (f_X11_pair_L35 a4 n a3 a5 y k104) := by
  intro n
  induction n with
  | zero => intro a3 a5; exact mS_none
  | succ n ih =>
    intro a3 a5
    rw [f_X11_pair_L35]
    refine mS_steps (pc' := 39) (ls' := [.ref 279, mU, mU, .int a3, .int a4, .int a5]) (st' := [.int a4, .int a5]) (mem' := (mk x y)) 2 rfl ?_
    refine mS_ic3 rfl (fun _ => ?_) (fun _ => ?_)
    · refine mS_forget [.ref 279, mU, mU, .int a3, .int a4, mU] ⟨Or.inr rfl, Or.inl rfl, Or.inl rfl, Or.inr rfl, Or.inr rfl, Or.inl rfl, trivial⟩ ?_
      exact hk104 a3
    · refine mS_steps (pc' := 48) (ls' := [.ref 279, mU, mU, .int a3, .int a4, .int a5]) (st' := [.int a4, .ref 312]) (mem' := (mk x y)) 3 rfl ?_
      refine mS_ald (b := 0) (n := 256) (z := (y.1 312 a4.toNatClampNeg)) rfl (by decide) rfl (by decide) rfl (fun _ => ?_)
      refine mS_steps (pc' := 52) (ls' := [.ref 279, mU, mU, .int a3, .int a4, .int a5]) (st' := [.int (1000000 : Int32), .int (y.1 312 a4.toNatClampNeg)]) (mem' := (mk x y)) 1 rfl ?_
      refine mS_ic3 rfl (fun _ => ?_) (fun _ => ?_)
      · refine mS_forget [.ref 279, mU, mU, .int a3, .int a4, mU] ⟨Or.inr rfl, Or.inl rfl, Or.inl rfl, Or.inr rfl, Or.inr rfl, Or.inl rfl, trivial⟩ ?_
        exact hk104 a3
      · refine mS_steps (pc' := 60) (ls' := [.ref 279, mU, mU, .int a3, .int a4, .int a5]) (st' := [.int (a4 &&& a5)]) (mem' := (mk x y)) 3 rfl ?_
        refine mS_if1 rfl (fun _ => ?_) (fun _ => ?_)
        · refine mS_steps (pc' := 69) (ls' := [.ref 279, mU, mU, .int a3, .int a4, .int a5]) (st' := [.int a4, .ref 312]) (mem' := (mk x y)) 3 rfl ?_
          refine mS_ald (b := 0) (n := 256) (z := (y.1 312 a4.toNatClampNeg)) rfl (by decide) rfl (by decide) rfl (fun _ => ?_)
          refine mS_steps (pc' := 76) (ls' := [.ref 279, mU, mU, .int a3, .int a4, .int a5]) (st' := [.int a5, .ref 312, .int (y.1 312 a4.toNatClampNeg)]) (mem' := (mk x y)) 3 rfl ?_
          refine mS_ald (b := 0) (n := 256) (z := (y.1 312 a5.toNatClampNeg)) rfl (by decide) rfl (by decide) rfl (fun _ => ?_)
          refine mS_steps (pc' := 79) (ls' := [.ref 279, mU, mU, .int a3, .int a4, .int a5]) (st' := [.int a3, .int ((y.1 312 a4.toNatClampNeg) + (y.1 312 a5.toNatClampNeg))]) (mem' := (mk x y)) 2 rfl ?_
          refine mS_ic3 rfl (fun _ => ?_) (fun _ => ?_)
          · refine mS_steps (pc' := 35) (ls' := [.ref 279, mU, mU, .int a3, .int a4, .int (a5 + (1 : Int32))]) (st' := []) (mem' := (mk x y)) 2 rfl ?_
            exact ih a3 (a5 + (1 : Int32))
          · refine mS_steps (pc' := 88) (ls' := [.ref 279, mU, mU, .int a3, .int a4, .int a5]) (st' := [.int a4, .ref 312]) (mem' := (mk x y)) 3 rfl ?_
            refine mS_ald (b := 0) (n := 256) (z := (y.1 312 a4.toNatClampNeg)) rfl (by decide) rfl (by decide) rfl (fun _ => ?_)
            refine mS_steps (pc' := 95) (ls' := [.ref 279, mU, mU, .int a3, .int a4, .int a5]) (st' := [.int a5, .ref 312, .int (y.1 312 a4.toNatClampNeg)]) (mem' := (mk x y)) 3 rfl ?_
            refine mS_ald (b := 0) (n := 256) (z := (y.1 312 a5.toNatClampNeg)) rfl (by decide) rfl (by decide) rfl (fun _ => ?_)
            refine mS_steps (pc' := 35) (ls' := [.ref 279, mU, mU, .int ((y.1 312 a4.toNatClampNeg) + (y.1 312 a5.toNatClampNeg)), .int a4, .int (a5 + (1 : Int32))]) (st' := []) (mem' := (mk x y)) 4 rfl ?_
            exact ih ((y.1 312 a4.toNatClampNeg) + (y.1 312 a5.toNatClampNeg)) (a5 + (1 : Int32))
        · refine mS_steps (pc' := 35) (ls' := [.ref 279, mU, mU, .int a3, .int a4, .int (a5 + (1 : Int32))]) (st' := []) (mem' := (mk x y)) 2 rfl ?_
          exact ih a3 (a5 + (1 : Int32))
set_option maxRecDepth 20000 in
set_option maxHeartbeats 2000000 in
theorem f_X11_pair_L24_snd {fm : Value} {L : Nat} {xs : Nat → Int32} (y : mY) (x : mX) : ∀ (n : Nat) (a3 : Int32) (a4 : Int32), mS fm L xs (fun r : (Int32 × mY) => (.int r.1, mk x r.2)) pg_X11_pair 24 [.ref 279, mU, mU, .int a3, .int a4, mU] [] (mk x y) (f_X11_pair_L24 n a3 a4 y) := by
  intro n
  induction n with
  | zero => intro a3 a4; exact mS_none
  | succ n ih =>
    intro a3 a4
    rw [f_X11_pair_L24]
    refine mS_steps (pc' := 29) (ls' := [.ref 279, mU, mU, .int a3, .int a4, mU]) (st' := [.int (256 : Int32), .int a4]) (mem' := (mk x y)) 2 rfl ?_
    refine mS_ic3 rfl (fun _ => ?_) (fun _ => ?_)
    · refine mS_steps (pc' := 114) (ls' := [.ref 279, mU, mU, .int a3, .int a4, mU]) (st' := [.int (1000000 : Int32), .int a3]) (mem' := (mk x y)) 2 rfl ?_
      refine mS_ic3 rfl (fun _ => ?_) (fun _ => ?_)
      · refine mS_steps (pc' := 123) (ls' := [.ref 279, mU, mU, .int a3, .int a4, mU]) (st' := [.int (-2 : Int32)]) (mem' := (mk x y)) 1 rfl ?_
        exact mS_reti ⟨_, _, _, _, _, rfl, rfl⟩ rfl
      · refine mS_steps (pc' := 123) (ls' := [.ref 279, mU, mU, .int a3, .int a4, mU]) (st' := [.int a3]) (mem' := (mk x y)) 2 rfl ?_
        exact mS_reti ⟨_, _, _, _, _, rfl, rfl⟩ rfl
    · refine mS_steps (pc' := 35) (ls' := [.ref 279, mU, mU, .int a3, .int a4, .int (0 : Int32)]) (st' := []) (mem' := (mk x y)) 2 rfl ?_
      refine f_X11_pair_L35_snd a4 y x _ ?_ mF a3 (0 : Int32)
      · intro v3
        refine mS_steps (pc' := 24) (ls' := [.ref 279, mU, mU, .int v3, .int (a4 + (1 : Int32)), mU]) (st' := []) (mem' := (mk x y)) 2 rfl ?_
        exact ih v3 (a4 + (1 : Int32))
set_option maxRecDepth 20000 in
set_option maxHeartbeats 2000000 in
theorem f_X11_pair_snd {fm : Value} {L : Nat} {xs : Nat → Int32} (p1 : Int32) (p2 : Int32) (y : mY) (x : mX) : mS fm L xs (fun r : (Int32 × mY) => (.int r.1, mk x r.2)) pg_X11_pair 0 (m_entry [.ref 279, .int p1, .int p2] 6) [] (mk x y) ((f_X11_pair p1 p2 y)) := by
  unfold f_X11_pair
  refine mS_steps (pc' := 0) (ls' := [.ref 279, .int p1, .int p2, mU, mU, mU]) (st' := []) (mem' := (mk x y)) 0 rfl ?_
  refine mS_steps (pc' := 3) (ls' := [.ref 279, .int p1, .int p2, mU, mU, mU]) (st' := [.int p2, .int p1, .ref 279]) (mem' := (mk x y)) 3 rfl ?_
  refine mS_bind (fun q1 hq1 => mS_call 141 3 [.ref 279, .int p1, .int p2] [] rfl rfl rfl ⟨_, _, _, rfl, rfl⟩ (Nat.le_of_ble_eq_true rfl) (Nat.le_of_ble_eq_true rfl) hq1 (f_X11_canSend_snd p1 p2 y x) ?_)
  refine mS_steps (pc' := 6) (ls' := [.ref 279, .int p1, .int p2, mU, mU, mU]) (st' := [.int q1]) (mem' := (mk x y)) 0 rfl ?_
  refine mS_if1 rfl (fun _ => ?_) (fun _ => ?_)
  · refine mS_steps (pc' := 10) (ls' := [.ref 279, .int p1, .int p2, mU, mU, mU]) (st' := [.int (-1 : Int32)]) (mem' := (mk x y)) 1 rfl ?_
    exact mS_reti ⟨_, _, _, _, _, rfl, rfl⟩ rfl
  · refine mS_steps (pc' := 14) (ls' := [.ref 279, .int p1, .int p2, mU, mU, mU]) (st' := [.int p2, .int p1, .ref 279]) (mem' := (mk x y)) 3 rfl ?_
    refine mS_bind (fun q2 hq2 => mS_call 246 3 [.ref 279, .int p1, .int p2] [] rfl rfl rfl ⟨_, _, _, rfl, rfl⟩ (Nat.le_of_ble_eq_true rfl) (Nat.le_of_ble_eq_true rfl) hq2 (f_X11_laysWays_snd p1 p2 y x) ?_)
    refine mS_steps (pc' := 24) (ls' := [.ref 279, .int p1, .int p2, .int (1000000 : Int32), .int (1 : Int32), mU]) (st' := []) (mem' := (mk x q2)) 4 rfl ?_
    refine mS_forget [.ref 279, mU, mU, .int (1000000 : Int32), .int (1 : Int32), mU] ⟨Or.inr rfl, Or.inl rfl, Or.inl rfl, Or.inr rfl, Or.inr rfl, Or.inl rfl, trivial⟩ ?_
    refine f_X11_pair_L24_snd q2 x mF (1000000 : Int32) (1 : Int32)
def f_X7_priceAlong_L9 (a2 : Int32) (a4 : Int32) : Nat → Int32 → Int32 → Int32 → mX → Option Int32
  | 0, _, _, _, _ => none
  | n + 1, a5, a6, a7, x => (if (8 : Int32) ≤ a7 then (some a6) else (if a5 = a2 then (some a6) else (if a5 = (-1 : Int32) then (some a6) else ((f_X7_linkAt a2 a5 a4 x).bind fun q1 => (m_jn (fun _ => ((f_X7_next a2 a5 a4 x).bind fun q3 => (f_X7_priceAlong_L9 a2 a4 n q3 (a6 + (0 : Int32)) (a7 + (1 : Int32)) x))) (fun j2 => if q1 < 0 then (j2 ()) else (if (16 : Int32) ≤ q1 then (j2 ()) else (if m_in q1 16 = true then ((f_X7_next a2 a5 a4 x).bind fun q4 => (f_X7_priceAlong_L9 a2 a4 n q4 (a6 + (x.1 17 q1.toNatClampNeg)) (a7 + (1 : Int32)) x)) else none))))))))
def f_X7_priceAlong (p2 : Int32) (p3 : Int32) (p4 : Int32) (x : mX) : Option Int32 := (f_X7_priceAlong_L9 p2 p4 mF p3 (0 : Int32) (0 : Int32) x)
set_option maxRecDepth 20000 in
set_option maxHeartbeats 2000000 in
theorem f_X7_priceAlong_L9_snd {fm : Value} {L : Nat} {xs : Nat → Int32} (a2 : Int32) (a4 : Int32) (x : mX) (y : mY) : ∀ (n : Nat) (a5 : Int32) (a6 : Int32) (a7 : Int32), mS fm L xs (fun r : Int32 => (.int r, (mk x y))) pg_X7_priceAlong 9 [.ref 234, .ref 14, .int a2, mU, .int a4, .int a5, .int a6, .int a7, mU] [] (mk x y) (f_X7_priceAlong_L9 a2 a4 n a5 a6 a7 x) := by
  intro n
  induction n with
  | zero => intro a5 a6 a7; exact mS_none
  | succ n ih =>
    intro a5 a6 a7
    rw [f_X7_priceAlong_L9]
    refine mS_steps (pc' := 13) (ls' := [.ref 234, .ref 14, .int a2, mU, .int a4, .int a5, .int a6, .int a7, mU]) (st' := [.int (8 : Int32), .int a7]) (mem' := (mk x y)) 2 rfl ?_
    refine mS_ic3 rfl (fun _ => ?_) (fun _ => ?_)
    · refine mS_steps (pc' := 86) (ls' := [.ref 234, .ref 14, .int a2, mU, .int a4, .int a5, .int a6, .int a7, mU]) (st' := [.int a6]) (mem' := (mk x y)) 1 rfl ?_
      exact mS_reti ⟨_, _, _, _, _, rfl, rfl⟩ rfl
    · refine mS_steps (pc' := 19) (ls' := [.ref 234, .ref 14, .int a2, mU, .int a4, .int a5, .int a6, .int a7, mU]) (st' := [.int a2, .int a5]) (mem' := (mk x y)) 2 rfl ?_
      refine mS_ic0 rfl (fun _ => ?_) (fun _ => ?_)
      · refine mS_steps (pc' := 86) (ls' := [.ref 234, .ref 14, .int a2, mU, .int a4, .int a5, .int a6, .int a7, mU]) (st' := [.int a6]) (mem' := (mk x y)) 1 rfl ?_
        exact mS_reti ⟨_, _, _, _, _, rfl, rfl⟩ rfl
      · refine mS_steps (pc' := 25) (ls' := [.ref 234, .ref 14, .int a2, mU, .int a4, .int a5, .int a6, .int a7, mU]) (st' := [.int (-1 : Int32), .int a5]) (mem' := (mk x y)) 2 rfl ?_
        refine mS_ic0 rfl (fun _ => ?_) (fun _ => ?_)
        · refine mS_steps (pc' := 86) (ls' := [.ref 234, .ref 14, .int a2, mU, .int a4, .int a5, .int a6, .int a7, mU]) (st' := [.int a6]) (mem' := (mk x y)) 1 rfl ?_
          exact mS_reti ⟨_, _, _, _, _, rfl, rfl⟩ rfl
        · refine mS_steps (pc' := 34) (ls' := [.ref 234, .ref 14, .int a2, mU, .int a4, .int a5, .int a6, .int a7, mU]) (st' := [.int a4, .int a5, .int a2, .ref 234]) (mem' := (mk x y)) 4 rfl ?_
          refine mS_bind (fun q1 hq1 => mS_call 136 4 [.ref 234, .int a2, .int a5, .int a4] [] rfl rfl rfl ⟨_, _, _, rfl, rfl⟩ (Nat.le_of_ble_eq_true rfl) (Nat.le_of_ble_eq_true rfl) hq1 (f_X7_linkAt_snd a2 a5 a4 x y) ?_)
          refine mS_steps (pc' := 43) (ls' := [.ref 234, .ref 14, .int a2, mU, .int a4, .int a5, .int a6, .int a7, .int q1]) (st' := [.int q1, .int a6]) (mem' := (mk x y)) 3 rfl ?_
          refine mS_jn (fun j => ∀ z : Unit, mS fm L xs (fun r : Int32 => (.int r, (mk x y))) pg_X7_priceAlong 63 [.ref 234, .ref 14, .int a2, mU, .int a4, .int a5, mU, .int a7, mU] [.int a6] (mk x y) (j z)) ?_ ?_
          · intro z
            refine mS_steps (pc' := 73) (ls' := [.ref 234, .ref 14, .int a2, mU, .int a4, .int a5, .int (a6 + (0 : Int32)), .int a7, mU]) (st' := [.int a4, .int a5, .int a2, .ref 234]) (mem' := (mk x y)) 7 rfl ?_
            refine mS_bind (fun q3 hq3 => mS_call 137 4 [.ref 234, .int a2, .int a5, .int a4] [] rfl rfl rfl ⟨_, _, _, rfl, rfl⟩ (Nat.le_of_ble_eq_true rfl) (Nat.le_of_ble_eq_true rfl) hq3 (f_X7_next_snd a2 a5 a4 x y) ?_)
            refine mS_steps (pc' := 9) (ls' := [.ref 234, .ref 14, .int a2, mU, .int a4, .int q3, .int (a6 + (0 : Int32)), .int (a7 + (1 : Int32)), mU]) (st' := []) (mem' := (mk x y)) 3 rfl ?_
            exact ih q3 (a6 + (0 : Int32)) (a7 + (1 : Int32))
          intro j2 hj2
          refine mS_if2 rfl (fun _ => ?_) (fun _ => ?_)
          · refine mS_forget [.ref 234, .ref 14, .int a2, mU, .int a4, .int a5, mU, .int a7, mU] ⟨Or.inr rfl, Or.inr rfl, Or.inr rfl, Or.inl rfl, Or.inr rfl, Or.inr rfl, Or.inl rfl, Or.inr rfl, Or.inl rfl, trivial⟩ ?_
            exact hj2 ()
          · refine mS_steps (pc' := 50) (ls' := [.ref 234, .ref 14, .int a2, mU, .int a4, .int a5, .int a6, .int a7, .int q1]) (st' := [.int (16 : Int32), .int q1, .int a6]) (mem' := (mk x y)) 2 rfl ?_
            refine mS_ic3 rfl (fun _ => ?_) (fun _ => ?_)
            · refine mS_forget [.ref 234, .ref 14, .int a2, mU, .int a4, .int a5, mU, .int a7, mU] ⟨Or.inr rfl, Or.inr rfl, Or.inr rfl, Or.inl rfl, Or.inr rfl, Or.inr rfl, Or.inl rfl, Or.inr rfl, Or.inl rfl, trivial⟩ ?_
              exact hj2 ()
            · refine mS_steps (pc' := 59) (ls' := [.ref 234, .ref 14, .int a2, mU, .int a4, .int a5, .int a6, .int a7, .int q1]) (st' := [.int q1, .ref 17, .int a6]) (mem' := (mk x y)) 3 rfl ?_
              refine mS_ald (b := 0) (n := 16) (z := (x.1 17 q1.toNatClampNeg)) rfl (by decide) rfl (by decide) rfl (fun _ => ?_)
              refine mS_steps (pc' := 73) (ls' := [.ref 234, .ref 14, .int a2, mU, .int a4, .int a5, .int (a6 + (x.1 17 q1.toNatClampNeg)), .int a7, .int q1]) (st' := [.int a4, .int a5, .int a2, .ref 234]) (mem' := (mk x y)) 7 rfl ?_
              refine mS_bind (fun q4 hq4 => mS_call 137 4 [.ref 234, .int a2, .int a5, .int a4] [] rfl rfl rfl ⟨_, _, _, rfl, rfl⟩ (Nat.le_of_ble_eq_true rfl) (Nat.le_of_ble_eq_true rfl) hq4 (f_X7_next_snd a2 a5 a4 x y) ?_)
              refine mS_steps (pc' := 9) (ls' := [.ref 234, .ref 14, .int a2, mU, .int a4, .int q4, .int (a6 + (x.1 17 q1.toNatClampNeg)), .int (a7 + (1 : Int32)), .int q1]) (st' := []) (mem' := (mk x y)) 3 rfl ?_
              refine mS_forget [.ref 234, .ref 14, .int a2, mU, .int a4, .int q4, .int (a6 + (x.1 17 q1.toNatClampNeg)), .int (a7 + (1 : Int32)), mU] ⟨Or.inr rfl, Or.inr rfl, Or.inr rfl, Or.inl rfl, Or.inr rfl, Or.inr rfl, Or.inr rfl, Or.inr rfl, Or.inl rfl, trivial⟩ ?_
              exact ih q4 (a6 + (x.1 17 q1.toNatClampNeg)) (a7 + (1 : Int32))
set_option maxRecDepth 20000 in
set_option maxHeartbeats 2000000 in
theorem f_X7_priceAlong_snd {fm : Value} {L : Nat} {xs : Nat → Int32} (p2 : Int32) (p3 : Int32) (p4 : Int32) (x : mX) (y : mY) : mS fm L xs (fun r : Int32 => (.int r, (mk x y))) pg_X7_priceAlong 0 (m_entry [.ref 234, .ref 14, .int p2, .int p3, .int p4] 9) [] (mk x y) ((f_X7_priceAlong p2 p3 p4 x)) := by
  unfold f_X7_priceAlong
  refine mS_steps (pc' := 0) (ls' := [.ref 234, .ref 14, .int p2, .int p3, .int p4, mU, mU, mU, mU]) (st' := []) (mem' := (mk x y)) 0 rfl ?_
  refine mS_steps (pc' := 9) (ls' := [.ref 234, .ref 14, .int p2, .int p3, .int p4, .int p3, .int (0 : Int32), .int (0 : Int32), mU]) (st' := []) (mem' := (mk x y)) 6 rfl ?_
  refine mS_forget [.ref 234, .ref 14, .int p2, mU, .int p4, .int p3, .int (0 : Int32), .int (0 : Int32), mU] ⟨Or.inr rfl, Or.inr rfl, Or.inr rfl, Or.inl rfl, Or.inr rfl, Or.inr rfl, Or.inr rfl, Or.inr rfl, Or.inl rfl, trivial⟩ ?_
  refine f_X7_priceAlong_L9_snd p2 p4 x y mF p3 (0 : Int32) (0 : Int32)
def f_X10_dear (p1 : Int32) (p2 : Int32) (p3 : Int32) (x : mX) : Option (Int32 × mX) := (if (f_X10_isColour p3) = 0 then (some ((-1 : Int32), x)) else ((f_X10_hasWay p1 p2 x).bind fun q1 => (if q1.1 = 0 then (some ((-1 : Int32), q1.2)) else ((f_X7_priceAlong p1 p2 p3 q1.2).bind fun q2 => (some (q2, q1.2))))))
set_option maxRecDepth 20000 in
set_option maxHeartbeats 2000000 in
theorem f_X10_dear_snd {fm : Value} {L : Nat} {xs : Nat → Int32} (p1 : Int32) (p2 : Int32) (p3 : Int32) (x : mX) (y : mY) : mS fm L xs (fun r : (Int32 × mX) => (.int r.1, mk r.2 y)) pg_X10_dear 0 (m_entry [.ref 0, .int p1, .int p2, .int p3] 4) [] (mk x y) ((f_X10_dear p1 p2 p3 x)) := by
  unfold f_X10_dear
  refine mS_steps (pc' := 0) (ls' := [.ref 0, .int p1, .int p2, .int p3]) (st' := []) (mem' := (mk x y)) 0 rfl ?_
  refine mS_steps (pc' := 1) (ls' := [.ref 0, .int p1, .int p2, .int p3]) (st' := [.int p3]) (mem' := (mk x y)) 1 rfl ?_
  refine mS_call (q := (f_X10_isColour p3)) 195 1 [.int p3] [] rfl rfl rfl ⟨_, _, _, rfl, rfl⟩ (Nat.le_of_ble_eq_true rfl) (Nat.le_of_ble_eq_true rfl) rfl (f_X10_isColour_snd p3 (mk x y)) ?_
  refine mS_steps (pc' := 4) (ls' := [.ref 0, .int p1, .int p2, .int p3]) (st' := [.int (f_X10_isColour p3)]) (mem' := (mk x y)) 0 rfl ?_
  refine mS_if0 rfl (fun _ => ?_) (fun _ => ?_)
  · refine mS_steps (pc' := 34) (ls' := [.ref 0, .int p1, .int p2, .int p3]) (st' := [.int (-1 : Int32)]) (mem' := (mk x y)) 1 rfl ?_
    exact mS_reti ⟨_, _, _, _, _, rfl, rfl⟩ rfl
  · refine mS_steps (pc' := 10) (ls' := [.ref 0, .int p1, .int p2, .int p3]) (st' := [.int p2, .int p1, .ref 0]) (mem' := (mk x y)) 3 rfl ?_
    refine mS_bind (fun q1 hq1 => mS_call 186 3 [.ref 0, .int p1, .int p2] [] rfl rfl rfl ⟨_, _, _, rfl, rfl⟩ (Nat.le_of_ble_eq_true rfl) (Nat.le_of_ble_eq_true rfl) hq1 (f_X10_hasWay_snd p1 p2 x y) ?_)
    refine mS_steps (pc' := 13) (ls' := [.ref 0, .int p1, .int p2, .int p3]) (st' := [.int q1.1]) (mem' := (mk q1.2 y)) 0 rfl ?_
    refine mS_if0 rfl (fun _ => ?_) (fun _ => ?_)
    · refine mS_steps (pc' := 34) (ls' := [.ref 0, .int p1, .int p2, .int p3]) (st' := [.int (-1 : Int32)]) (mem' := (mk q1.2 y)) 1 rfl ?_
      exact mS_reti ⟨_, _, _, _, _, rfl, rfl⟩ rfl
    · refine mS_steps (pc' := 27) (ls' := [.ref 0, .int p1, .int p2, .int p3]) (st' := [.int p3, .int p2, .int p1, .ref 14, .ref 234]) (mem' := (mk q1.2 y)) 7 rfl ?_
      refine mS_bind (fun q2 hq2 => mS_call 251 5 [.ref 234, .ref 14, .int p1, .int p2, .int p3] [] rfl rfl rfl ⟨_, _, _, rfl, rfl⟩ (Nat.le_of_ble_eq_true rfl) (Nat.le_of_ble_eq_true rfl) hq2 (f_X7_priceAlong_snd p1 p2 p3 q1.2 y) ?_)
      refine mS_steps (pc' := 34) (ls' := [.ref 0, .int p1, .int p2, .int p3]) (st' := [.int q2]) (mem' := (mk q1.2 y)) 1 rfl ?_
      exact mS_reti ⟨_, _, _, _, _, rfl, rfl⟩ rfl
def f_X11_dear_L26 (a1 : Int32) (a3 : Int32) : Nat → Int32 → Int32 → mY → Option (Int32 × mY)
  | 0, _, _, _ => none
  | n + 1, a4, a5, y => (if a5 = a1 then (some (a4, y)) else ((f_X11_hopOf a1 a5 a3 y).bind fun q2 => ((f_X11_between a5 q2 y).bind fun q3 => (if m_in ((40 : Int32) + q3) 72 = true then (f_X11_dear_L26 a1 a3 n (a4 + (y.1 289 ((40 : Int32) + q3).toNatClampNeg)) q2 y) else none))))
def f_X11_dear (p1 : Int32) (p2 : Int32) (p3 : Int32) (y : mY) : Option (Int32 × mY) := ((f_X11_placeOf p1 p2 y).bind fun q1 => (if q1.1 < 0 then (some ((-1 : Int32), q1.2)) else (if (f_X11_in p3 (0 : Int32) (1 : Int32)) = 0 then (some ((-1 : Int32), q1.2)) else (f_X11_dear_L26 p1 p3 mF (0 : Int32) p2 q1.2))))
set_option maxRecDepth 20000 in
set_option maxHeartbeats 2000000 in
theorem f_X11_dear_L26_snd {fm : Value} {L : Nat} {xs : Nat → Int32} (a1 : Int32) (a3 : Int32) (y : mY) (x : mX) : ∀ (n : Nat) (a4 : Int32) (a5 : Int32), mS fm L xs (fun r : (Int32 × mY) => (.int r.1, mk x r.2)) pg_X11_dear 26 [.ref 279, .int a1, mU, .int a3, .int a4, .int a5, mU] [] (mk x y) (f_X11_dear_L26 a1 a3 n a4 a5 y) := by
  intro n
  induction n with
  | zero => intro a4 a5; exact mS_none
  | succ n ih =>
    intro a4 a5
    rw [f_X11_dear_L26]
    refine mS_steps (pc' := 29) (ls' := [.ref 279, .int a1, mU, .int a3, .int a4, .int a5, mU]) (st' := [.int a1, .int a5]) (mem' := (mk x y)) 2 rfl ?_
    refine mS_ic0 rfl (fun _ => ?_) (fun _ => ?_)
    · refine mS_steps (pc' := 72) (ls' := [.ref 279, .int a1, mU, .int a3, .int a4, .int a5, mU]) (st' := [.int a4]) (mem' := (mk x y)) 1 rfl ?_
      exact mS_reti ⟨_, _, _, _, _, rfl, rfl⟩ rfl
    · refine mS_steps (pc' := 37) (ls' := [.ref 279, .int a1, mU, .int a3, .int a4, .int a5, mU]) (st' := [.int a3, .int a5, .int a1, .ref 279]) (mem' := (mk x y)) 4 rfl ?_
      refine mS_bind (fun q2 hq2 => mS_call 157 4 [.ref 279, .int a1, .int a5, .int a3] [] rfl rfl rfl ⟨_, _, _, rfl, rfl⟩ (Nat.le_of_ble_eq_true rfl) (Nat.le_of_ble_eq_true rfl) hq2 (f_X11_hopOf_snd a1 a5 a3 y x) ?_)
      refine mS_steps (pc' := 55) (ls' := [.ref 279, .int a1, mU, .int a3, .int a4, .int a5, .int q2]) (st' := [.int q2, .int a5, .ref 279, .int (40 : Int32), .ref 289, .int a4]) (mem' := (mk x y)) 8 rfl ?_
      refine mS_bind (fun q3 hq3 => mS_call 107 3 [.ref 279, .int a5, .int q2] [.int (40 : Int32), .ref 289, .int a4] rfl rfl rfl ⟨_, _, _, rfl, rfl⟩ (Nat.le_of_ble_eq_true rfl) (Nat.le_of_ble_eq_true rfl) hq3 (f_X11_between_snd a5 q2 y x) ?_)
      refine mS_steps (pc' := 59) (ls' := [.ref 279, .int a1, mU, .int a3, .int a4, .int a5, .int q2]) (st' := [.int ((40 : Int32) + q3), .ref 289, .int a4]) (mem' := (mk x y)) 1 rfl ?_
      refine mS_ald (b := 0) (n := 72) (z := (y.1 289 ((40 : Int32) + q3).toNatClampNeg)) rfl (by decide) rfl (by decide) rfl (fun _ => ?_)
      refine mS_steps (pc' := 26) (ls' := [.ref 279, .int a1, mU, .int a3, .int (a4 + (y.1 289 ((40 : Int32) + q3).toNatClampNeg)), .int q2, .int q2]) (st' := []) (mem' := (mk x y)) 5 rfl ?_
      refine mS_forget [.ref 279, .int a1, mU, .int a3, .int (a4 + (y.1 289 ((40 : Int32) + q3).toNatClampNeg)), .int q2, mU] ⟨Or.inr rfl, Or.inr rfl, Or.inl rfl, Or.inr rfl, Or.inr rfl, Or.inr rfl, Or.inl rfl, trivial⟩ ?_
      exact ih (a4 + (y.1 289 ((40 : Int32) + q3).toNatClampNeg)) q2
set_option maxRecDepth 20000 in
set_option maxHeartbeats 2000000 in
theorem f_X11_dear_snd {fm : Value} {L : Nat} {xs : Nat → Int32} (p1 : Int32) (p2 : Int32) (p3 : Int32) (y : mY) (x : mX) : mS fm L xs (fun r : (Int32 × mY) => (.int r.1, mk x r.2)) pg_X11_dear 0 (m_entry [.ref 279, .int p1, .int p2, .int p3] 7) [] (mk x y) ((f_X11_dear p1 p2 p3 y)) := by
  unfold f_X11_dear
  refine mS_steps (pc' := 0) (ls' := [.ref 279, .int p1, .int p2, .int p3, mU, mU, mU]) (st' := []) (mem' := (mk x y)) 0 rfl ?_
  refine mS_steps (pc' := 3) (ls' := [.ref 279, .int p1, .int p2, .int p3, mU, mU, mU]) (st' := [.int p2, .int p1, .ref 279]) (mem' := (mk x y)) 3 rfl ?_
  refine mS_bind (fun q1 hq1 => mS_call 189 3 [.ref 279, .int p1, .int p2] [] rfl rfl rfl ⟨_, _, _, rfl, rfl⟩ (Nat.le_of_ble_eq_true rfl) (Nat.le_of_ble_eq_true rfl) hq1 (f_X11_placeOf_snd p1 p2 y x) ?_)
  refine mS_steps (pc' := 6) (ls' := [.ref 279, .int p1, .int p2, .int p3, mU, mU, mU]) (st' := [.int q1.1]) (mem' := (mk x q1.2)) 0 rfl ?_
  refine mS_if2 rfl (fun _ => ?_) (fun _ => ?_)
  · refine mS_steps (pc' := 19) (ls' := [.ref 279, .int p1, .int p2, .int p3, mU, mU, mU]) (st' := [.int (-1 : Int32)]) (mem' := (mk x q1.2)) 1 rfl ?_
    exact mS_reti ⟨_, _, _, _, _, rfl, rfl⟩ rfl
  · refine mS_steps (pc' := 12) (ls' := [.ref 279, .int p1, .int p2, .int p3, mU, mU, mU]) (st' := [.int (1 : Int32), .int (0 : Int32), .int p3]) (mem' := (mk x q1.2)) 3 rfl ?_
    refine mS_call (q := (f_X11_in p3 (0 : Int32) (1 : Int32))) 83 3 [.int p3, .int (0 : Int32), .int (1 : Int32)] [] rfl rfl rfl ⟨_, _, _, rfl, rfl⟩ (Nat.le_of_ble_eq_true rfl) (Nat.le_of_ble_eq_true rfl) rfl (f_X11_in_snd p3 (0 : Int32) (1 : Int32) (mk x q1.2)) ?_
    refine mS_steps (pc' := 15) (ls' := [.ref 279, .int p1, .int p2, .int p3, mU, mU, mU]) (st' := [.int (f_X11_in p3 (0 : Int32) (1 : Int32))]) (mem' := (mk x q1.2)) 0 rfl ?_
    refine mS_if1 rfl (fun _ => ?_) (fun _ => ?_)
    · refine mS_steps (pc' := 19) (ls' := [.ref 279, .int p1, .int p2, .int p3, mU, mU, mU]) (st' := [.int (-1 : Int32)]) (mem' := (mk x q1.2)) 1 rfl ?_
      exact mS_reti ⟨_, _, _, _, _, rfl, rfl⟩ rfl
    · refine mS_steps (pc' := 26) (ls' := [.ref 279, .int p1, .int p2, .int p3, .int (0 : Int32), .int p2, mU]) (st' := []) (mem' := (mk x q1.2)) 4 rfl ?_
      refine mS_forget [.ref 279, .int p1, mU, .int p3, .int (0 : Int32), .int p2, mU] ⟨Or.inr rfl, Or.inr rfl, Or.inl rfl, Or.inr rfl, Or.inr rfl, Or.inr rfl, Or.inl rfl, trivial⟩ ?_
      refine f_X11_dear_L26_snd p1 p3 q1.2 x mF (0 : Int32) p2
def f_J6_bitCount_0f7a4 (p0 : Int32) : Option Int32 := (some ((((((((p0 - (((p0.toUInt32 >>> ((1 : Int32).toUInt32 &&& Int32.toUInt32 31)).toInt32) &&& (1431655765 : Int32))) &&& (858993459 : Int32)) + ((((p0 - (((p0.toUInt32 >>> ((1 : Int32).toUInt32 &&& Int32.toUInt32 31)).toInt32) &&& (1431655765 : Int32))).toUInt32 >>> ((2 : Int32).toUInt32 &&& Int32.toUInt32 31)).toInt32) &&& (858993459 : Int32))) + (((((p0 - (((p0.toUInt32 >>> ((1 : Int32).toUInt32 &&& Int32.toUInt32 31)).toInt32) &&& (1431655765 : Int32))) &&& (858993459 : Int32)) + ((((p0 - (((p0.toUInt32 >>> ((1 : Int32).toUInt32 &&& Int32.toUInt32 31)).toInt32) &&& (1431655765 : Int32))).toUInt32 >>> ((2 : Int32).toUInt32 &&& Int32.toUInt32 31)).toInt32) &&& (858993459 : Int32))).toUInt32 >>> ((4 : Int32).toUInt32 &&& Int32.toUInt32 31)).toInt32)) &&& (252645135 : Int32)) + (((((((p0 - (((p0.toUInt32 >>> ((1 : Int32).toUInt32 &&& Int32.toUInt32 31)).toInt32) &&& (1431655765 : Int32))) &&& (858993459 : Int32)) + ((((p0 - (((p0.toUInt32 >>> ((1 : Int32).toUInt32 &&& Int32.toUInt32 31)).toInt32) &&& (1431655765 : Int32))).toUInt32 >>> ((2 : Int32).toUInt32 &&& Int32.toUInt32 31)).toInt32) &&& (858993459 : Int32))) + (((((p0 - (((p0.toUInt32 >>> ((1 : Int32).toUInt32 &&& Int32.toUInt32 31)).toInt32) &&& (1431655765 : Int32))) &&& (858993459 : Int32)) + ((((p0 - (((p0.toUInt32 >>> ((1 : Int32).toUInt32 &&& Int32.toUInt32 31)).toInt32) &&& (1431655765 : Int32))).toUInt32 >>> ((2 : Int32).toUInt32 &&& Int32.toUInt32 31)).toInt32) &&& (858993459 : Int32))).toUInt32 >>> ((4 : Int32).toUInt32 &&& Int32.toUInt32 31)).toInt32)) &&& (252645135 : Int32)).toUInt32 >>> ((8 : Int32).toUInt32 &&& Int32.toUInt32 31)).toInt32)) + ((((((((p0 - (((p0.toUInt32 >>> ((1 : Int32).toUInt32 &&& Int32.toUInt32 31)).toInt32) &&& (1431655765 : Int32))) &&& (858993459 : Int32)) + ((((p0 - (((p0.toUInt32 >>> ((1 : Int32).toUInt32 &&& Int32.toUInt32 31)).toInt32) &&& (1431655765 : Int32))).toUInt32 >>> ((2 : Int32).toUInt32 &&& Int32.toUInt32 31)).toInt32) &&& (858993459 : Int32))) + (((((p0 - (((p0.toUInt32 >>> ((1 : Int32).toUInt32 &&& Int32.toUInt32 31)).toInt32) &&& (1431655765 : Int32))) &&& (858993459 : Int32)) + ((((p0 - (((p0.toUInt32 >>> ((1 : Int32).toUInt32 &&& Int32.toUInt32 31)).toInt32) &&& (1431655765 : Int32))).toUInt32 >>> ((2 : Int32).toUInt32 &&& Int32.toUInt32 31)).toInt32) &&& (858993459 : Int32))).toUInt32 >>> ((4 : Int32).toUInt32 &&& Int32.toUInt32 31)).toInt32)) &&& (252645135 : Int32)) + (((((((p0 - (((p0.toUInt32 >>> ((1 : Int32).toUInt32 &&& Int32.toUInt32 31)).toInt32) &&& (1431655765 : Int32))) &&& (858993459 : Int32)) + ((((p0 - (((p0.toUInt32 >>> ((1 : Int32).toUInt32 &&& Int32.toUInt32 31)).toInt32) &&& (1431655765 : Int32))).toUInt32 >>> ((2 : Int32).toUInt32 &&& Int32.toUInt32 31)).toInt32) &&& (858993459 : Int32))) + (((((p0 - (((p0.toUInt32 >>> ((1 : Int32).toUInt32 &&& Int32.toUInt32 31)).toInt32) &&& (1431655765 : Int32))) &&& (858993459 : Int32)) + ((((p0 - (((p0.toUInt32 >>> ((1 : Int32).toUInt32 &&& Int32.toUInt32 31)).toInt32) &&& (1431655765 : Int32))).toUInt32 >>> ((2 : Int32).toUInt32 &&& Int32.toUInt32 31)).toInt32) &&& (858993459 : Int32))).toUInt32 >>> ((4 : Int32).toUInt32 &&& Int32.toUInt32 31)).toInt32)) &&& (252645135 : Int32)).toUInt32 >>> ((8 : Int32).toUInt32 &&& Int32.toUInt32 31)).toInt32)).toUInt32 >>> ((16 : Int32).toUInt32 &&& Int32.toUInt32 31)).toInt32)) &&& (63 : Int32)))
set_option maxRecDepth 20000 in
set_option maxHeartbeats 2000000 in
theorem f_J6_bitCount_0f7a4_snd {fm : Value} {L : Nat} {xs : Nat → Int32} (p0 : Int32) (mem : mM) : mS fm L xs (fun r : Int32 => (.int r, mem)) pg_J6_bitCount_0f7a4 0 (m_entry [.int p0] 1) [] mem ((f_J6_bitCount_0f7a4 p0)) := by
  unfold f_J6_bitCount_0f7a4
  refine mS_steps (pc' := 0) (ls' := [.int p0]) (st' := []) (mem' := mem) 0 rfl ?_
  refine mS_steps (pc' := 52) (ls' := [.int (((((((p0 - (((p0.toUInt32 >>> ((1 : Int32).toUInt32 &&& Int32.toUInt32 31)).toInt32) &&& (1431655765 : Int32))) &&& (858993459 : Int32)) + ((((p0 - (((p0.toUInt32 >>> ((1 : Int32).toUInt32 &&& Int32.toUInt32 31)).toInt32) &&& (1431655765 : Int32))).toUInt32 >>> ((2 : Int32).toUInt32 &&& Int32.toUInt32 31)).toInt32) &&& (858993459 : Int32))) + (((((p0 - (((p0.toUInt32 >>> ((1 : Int32).toUInt32 &&& Int32.toUInt32 31)).toInt32) &&& (1431655765 : Int32))) &&& (858993459 : Int32)) + ((((p0 - (((p0.toUInt32 >>> ((1 : Int32).toUInt32 &&& Int32.toUInt32 31)).toInt32) &&& (1431655765 : Int32))).toUInt32 >>> ((2 : Int32).toUInt32 &&& Int32.toUInt32 31)).toInt32) &&& (858993459 : Int32))).toUInt32 >>> ((4 : Int32).toUInt32 &&& Int32.toUInt32 31)).toInt32)) &&& (252645135 : Int32)) + (((((((p0 - (((p0.toUInt32 >>> ((1 : Int32).toUInt32 &&& Int32.toUInt32 31)).toInt32) &&& (1431655765 : Int32))) &&& (858993459 : Int32)) + ((((p0 - (((p0.toUInt32 >>> ((1 : Int32).toUInt32 &&& Int32.toUInt32 31)).toInt32) &&& (1431655765 : Int32))).toUInt32 >>> ((2 : Int32).toUInt32 &&& Int32.toUInt32 31)).toInt32) &&& (858993459 : Int32))) + (((((p0 - (((p0.toUInt32 >>> ((1 : Int32).toUInt32 &&& Int32.toUInt32 31)).toInt32) &&& (1431655765 : Int32))) &&& (858993459 : Int32)) + ((((p0 - (((p0.toUInt32 >>> ((1 : Int32).toUInt32 &&& Int32.toUInt32 31)).toInt32) &&& (1431655765 : Int32))).toUInt32 >>> ((2 : Int32).toUInt32 &&& Int32.toUInt32 31)).toInt32) &&& (858993459 : Int32))).toUInt32 >>> ((4 : Int32).toUInt32 &&& Int32.toUInt32 31)).toInt32)) &&& (252645135 : Int32)).toUInt32 >>> ((8 : Int32).toUInt32 &&& Int32.toUInt32 31)).toInt32)) + ((((((((p0 - (((p0.toUInt32 >>> ((1 : Int32).toUInt32 &&& Int32.toUInt32 31)).toInt32) &&& (1431655765 : Int32))) &&& (858993459 : Int32)) + ((((p0 - (((p0.toUInt32 >>> ((1 : Int32).toUInt32 &&& Int32.toUInt32 31)).toInt32) &&& (1431655765 : Int32))).toUInt32 >>> ((2 : Int32).toUInt32 &&& Int32.toUInt32 31)).toInt32) &&& (858993459 : Int32))) + (((((p0 - (((p0.toUInt32 >>> ((1 : Int32).toUInt32 &&& Int32.toUInt32 31)).toInt32) &&& (1431655765 : Int32))) &&& (858993459 : Int32)) + ((((p0 - (((p0.toUInt32 >>> ((1 : Int32).toUInt32 &&& Int32.toUInt32 31)).toInt32) &&& (1431655765 : Int32))).toUInt32 >>> ((2 : Int32).toUInt32 &&& Int32.toUInt32 31)).toInt32) &&& (858993459 : Int32))).toUInt32 >>> ((4 : Int32).toUInt32 &&& Int32.toUInt32 31)).toInt32)) &&& (252645135 : Int32)) + (((((((p0 - (((p0.toUInt32 >>> ((1 : Int32).toUInt32 &&& Int32.toUInt32 31)).toInt32) &&& (1431655765 : Int32))) &&& (858993459 : Int32)) + ((((p0 - (((p0.toUInt32 >>> ((1 : Int32).toUInt32 &&& Int32.toUInt32 31)).toInt32) &&& (1431655765 : Int32))).toUInt32 >>> ((2 : Int32).toUInt32 &&& Int32.toUInt32 31)).toInt32) &&& (858993459 : Int32))) + (((((p0 - (((p0.toUInt32 >>> ((1 : Int32).toUInt32 &&& Int32.toUInt32 31)).toInt32) &&& (1431655765 : Int32))) &&& (858993459 : Int32)) + ((((p0 - (((p0.toUInt32 >>> ((1 : Int32).toUInt32 &&& Int32.toUInt32 31)).toInt32) &&& (1431655765 : Int32))).toUInt32 >>> ((2 : Int32).toUInt32 &&& Int32.toUInt32 31)).toInt32) &&& (858993459 : Int32))).toUInt32 >>> ((4 : Int32).toUInt32 &&& Int32.toUInt32 31)).toInt32)) &&& (252645135 : Int32)).toUInt32 >>> ((8 : Int32).toUInt32 &&& Int32.toUInt32 31)).toInt32)).toUInt32 >>> ((16 : Int32).toUInt32 &&& Int32.toUInt32 31)).toInt32))]) (st' := [.int ((((((((p0 - (((p0.toUInt32 >>> ((1 : Int32).toUInt32 &&& Int32.toUInt32 31)).toInt32) &&& (1431655765 : Int32))) &&& (858993459 : Int32)) + ((((p0 - (((p0.toUInt32 >>> ((1 : Int32).toUInt32 &&& Int32.toUInt32 31)).toInt32) &&& (1431655765 : Int32))).toUInt32 >>> ((2 : Int32).toUInt32 &&& Int32.toUInt32 31)).toInt32) &&& (858993459 : Int32))) + (((((p0 - (((p0.toUInt32 >>> ((1 : Int32).toUInt32 &&& Int32.toUInt32 31)).toInt32) &&& (1431655765 : Int32))) &&& (858993459 : Int32)) + ((((p0 - (((p0.toUInt32 >>> ((1 : Int32).toUInt32 &&& Int32.toUInt32 31)).toInt32) &&& (1431655765 : Int32))).toUInt32 >>> ((2 : Int32).toUInt32 &&& Int32.toUInt32 31)).toInt32) &&& (858993459 : Int32))).toUInt32 >>> ((4 : Int32).toUInt32 &&& Int32.toUInt32 31)).toInt32)) &&& (252645135 : Int32)) + (((((((p0 - (((p0.toUInt32 >>> ((1 : Int32).toUInt32 &&& Int32.toUInt32 31)).toInt32) &&& (1431655765 : Int32))) &&& (858993459 : Int32)) + ((((p0 - (((p0.toUInt32 >>> ((1 : Int32).toUInt32 &&& Int32.toUInt32 31)).toInt32) &&& (1431655765 : Int32))).toUInt32 >>> ((2 : Int32).toUInt32 &&& Int32.toUInt32 31)).toInt32) &&& (858993459 : Int32))) + (((((p0 - (((p0.toUInt32 >>> ((1 : Int32).toUInt32 &&& Int32.toUInt32 31)).toInt32) &&& (1431655765 : Int32))) &&& (858993459 : Int32)) + ((((p0 - (((p0.toUInt32 >>> ((1 : Int32).toUInt32 &&& Int32.toUInt32 31)).toInt32) &&& (1431655765 : Int32))).toUInt32 >>> ((2 : Int32).toUInt32 &&& Int32.toUInt32 31)).toInt32) &&& (858993459 : Int32))).toUInt32 >>> ((4 : Int32).toUInt32 &&& Int32.toUInt32 31)).toInt32)) &&& (252645135 : Int32)).toUInt32 >>> ((8 : Int32).toUInt32 &&& Int32.toUInt32 31)).toInt32)) + ((((((((p0 - (((p0.toUInt32 >>> ((1 : Int32).toUInt32 &&& Int32.toUInt32 31)).toInt32) &&& (1431655765 : Int32))) &&& (858993459 : Int32)) + ((((p0 - (((p0.toUInt32 >>> ((1 : Int32).toUInt32 &&& Int32.toUInt32 31)).toInt32) &&& (1431655765 : Int32))).toUInt32 >>> ((2 : Int32).toUInt32 &&& Int32.toUInt32 31)).toInt32) &&& (858993459 : Int32))) + (((((p0 - (((p0.toUInt32 >>> ((1 : Int32).toUInt32 &&& Int32.toUInt32 31)).toInt32) &&& (1431655765 : Int32))) &&& (858993459 : Int32)) + ((((p0 - (((p0.toUInt32 >>> ((1 : Int32).toUInt32 &&& Int32.toUInt32 31)).toInt32) &&& (1431655765 : Int32))).toUInt32 >>> ((2 : Int32).toUInt32 &&& Int32.toUInt32 31)).toInt32) &&& (858993459 : Int32))).toUInt32 >>> ((4 : Int32).toUInt32 &&& Int32.toUInt32 31)).toInt32)) &&& (252645135 : Int32)) + (((((((p0 - (((p0.toUInt32 >>> ((1 : Int32).toUInt32 &&& Int32.toUInt32 31)).toInt32) &&& (1431655765 : Int32))) &&& (858993459 : Int32)) + ((((p0 - (((p0.toUInt32 >>> ((1 : Int32).toUInt32 &&& Int32.toUInt32 31)).toInt32) &&& (1431655765 : Int32))).toUInt32 >>> ((2 : Int32).toUInt32 &&& Int32.toUInt32 31)).toInt32) &&& (858993459 : Int32))) + (((((p0 - (((p0.toUInt32 >>> ((1 : Int32).toUInt32 &&& Int32.toUInt32 31)).toInt32) &&& (1431655765 : Int32))) &&& (858993459 : Int32)) + ((((p0 - (((p0.toUInt32 >>> ((1 : Int32).toUInt32 &&& Int32.toUInt32 31)).toInt32) &&& (1431655765 : Int32))).toUInt32 >>> ((2 : Int32).toUInt32 &&& Int32.toUInt32 31)).toInt32) &&& (858993459 : Int32))).toUInt32 >>> ((4 : Int32).toUInt32 &&& Int32.toUInt32 31)).toInt32)) &&& (252645135 : Int32)).toUInt32 >>> ((8 : Int32).toUInt32 &&& Int32.toUInt32 31)).toInt32)).toUInt32 >>> ((16 : Int32).toUInt32 &&& Int32.toUInt32 31)).toInt32)) &&& (63 : Int32))]) (mem' := mem) 41 rfl ?_
  exact mS_reti ⟨_, _, _, _, _, rfl, rfl⟩ rfl
def f_X1_partsWithout_L4 (a1 : Int32) : Nat → Int32 → Int32 → mX → Option Int32
  | 0, _, _, _ => none
  | n + 1, a2, a3, x => (if (8 : Int32) ≤ a3 then (some a2) else ((f_X3_without 258 a1 a3 x).bind fun q1 => ((f_X3_isLeast 258 a3 q1).bind fun q2 => (if q2 = 0 then (f_X1_partsWithout_L4 a1 n a2 (a3 + (1 : Int32)) x) else (f_X1_partsWithout_L4 a1 n (a2 + (1 : Int32)) (a3 + (1 : Int32)) x)))))
def f_X1_partsWithout (p1 : Int32) (x : mX) : Option Int32 := (f_X1_partsWithout_L4 p1 mF (0 : Int32) (0 : Int32) x)
set_option maxRecDepth 20000 in
set_option maxHeartbeats 2000000 in
theorem f_X1_partsWithout_L4_snd {fm : Value} {L : Nat} {xs : Nat → Int32} (a1 : Int32) (x : mX) (y : mY) : ∀ (n : Nat) (a2 : Int32) (a3 : Int32), mS fm L xs (fun r : Int32 => (.int r, (mk x y))) pg_X1_partsWithout 4 [.ref 256, .int a1, .int a2, .int a3] [] (mk x y) (f_X1_partsWithout_L4 a1 n a2 a3 x) := by
  intro n
  induction n with
  | zero => intro a2 a3; exact mS_none
  | succ n ih =>
    intro a2 a3
    rw [f_X1_partsWithout_L4]
    refine mS_steps (pc' := 7) (ls' := [.ref 256, .int a1, .int a2, .int a3]) (st' := [.int (8 : Int32), .int a3]) (mem' := (mk x y)) 2 rfl ?_
    refine mS_ic3 rfl (fun _ => ?_) (fun _ => ?_)
    · refine mS_steps (pc' := 40) (ls' := [.ref 256, .int a1, .int a2, .int a3]) (st' := [.int a2]) (mem' := (mk x y)) 1 rfl ?_
      exact mS_reti ⟨_, _, _, _, _, rfl, rfl⟩ rfl
    · refine mS_steps (pc' := 21) (ls' := [.ref 256, .int a1, .int a2, .int a3]) (st' := [.int a3, .int a1, .ref 258, .int a3, .ref 258]) (mem' := (mk x y)) 7 rfl ?_
      refine mS_bind (fun q1 hq1 => mS_call 115 3 [.ref 258, .int a1, .int a3] [.int a3, .ref 258] rfl rfl rfl ⟨_, _, _, rfl, rfl⟩ (Nat.le_of_ble_eq_true rfl) (Nat.le_of_ble_eq_true rfl) hq1 (f_X3_without_258_snd a1 a3 x y) ?_)
      refine mS_steps (pc' := 24) (ls' := [.ref 256, .int a1, .int a2, .int a3]) (st' := [.int q1, .int a3, .ref 258]) (mem' := (mk x y)) 0 rfl ?_
      refine mS_bind (fun q2 hq2 => mS_call 170 3 [.ref 258, .int a3, .int q1] [] rfl rfl rfl ⟨_, _, _, rfl, rfl⟩ (Nat.le_of_ble_eq_true rfl) (Nat.le_of_ble_eq_true rfl) hq2 (f_X3_isLeast_258_snd a3 q1 (mk x y)) ?_)
      refine mS_steps (pc' := 27) (ls' := [.ref 256, .int a1, .int a2, .int a3]) (st' := [.int q2]) (mem' := (mk x y)) 0 rfl ?_
      refine mS_if0 rfl (fun _ => ?_) (fun _ => ?_)
      · refine mS_steps (pc' := 4) (ls' := [.ref 256, .int a1, .int a2, .int (a3 + (1 : Int32))]) (st' := []) (mem' := (mk x y)) 2 rfl ?_
        exact ih a2 (a3 + (1 : Int32))
      · refine mS_steps (pc' := 4) (ls' := [.ref 256, .int a1, .int (a2 + (1 : Int32)), .int (a3 + (1 : Int32))]) (st' := []) (mem' := (mk x y)) 3 rfl ?_
        exact ih (a2 + (1 : Int32)) (a3 + (1 : Int32))
set_option maxRecDepth 20000 in
set_option maxHeartbeats 2000000 in
theorem f_X1_partsWithout_snd {fm : Value} {L : Nat} {xs : Nat → Int32} (p1 : Int32) (x : mX) (y : mY) : mS fm L xs (fun r : Int32 => (.int r, (mk x y))) pg_X1_partsWithout 0 (m_entry [.ref 256, .int p1] 4) [] (mk x y) ((f_X1_partsWithout p1 x)) := by
  unfold f_X1_partsWithout
  refine mS_steps (pc' := 0) (ls' := [.ref 256, .int p1, mU, mU]) (st' := []) (mem' := (mk x y)) 0 rfl ?_
  refine mS_steps (pc' := 4) (ls' := [.ref 256, .int p1, .int (0 : Int32), .int (0 : Int32)]) (st' := []) (mem' := (mk x y)) 4 rfl ?_
  refine f_X1_partsWithout_L4_snd p1 x y mF (0 : Int32) (0 : Int32)
def f_X1_endsAt_L5 (a1 : Int32) (a2 : Int32) : Nat → Int32 → Int32 → mX → Option Int32
  | 0, _, _, _ => none
  | n + 1, a3, a4, x => (if (8 : Int32) ≤ a4 then (some a3) else ((f_X3_without 258 a1 a4 x).bind fun q1 => ((f_X3_isLeast 258 a4 q1).bind fun q2 => (if q2 = 0 then (f_X1_endsAt_L5 a1 a2 n a3 (a4 + (1 : Int32)) x) else (if (q1 &&& a2) = 0 then (if m_in a1 8 = true then (if (q1 &&& (x.1 259 a1.toNatClampNeg)) = 0 then (f_X1_endsAt_L5 a1 a2 n a3 (a4 + (1 : Int32)) x) else (f_X1_endsAt_L5 a1 a2 n (a3 + (1 : Int32)) (a4 + (1 : Int32)) x)) else none) else (f_X1_endsAt_L5 a1 a2 n a3 (a4 + (1 : Int32)) x))))))
def f_X1_endsAt (p1 : Int32) (p2 : Int32) (x : mX) : Option Int32 := (f_X1_endsAt_L5 p1 p2 mF (0 : Int32) (0 : Int32) x)
set_option maxRecDepth 20000 in
set_option maxHeartbeats 2000000 in
theorem f_X1_endsAt_L5_snd {fm : Value} {L : Nat} {xs : Nat → Int32} (a1 : Int32) (a2 : Int32) (x : mX) (y : mY) : ∀ (n : Nat) (a3 : Int32) (a4 : Int32), mS fm L xs (fun r : Int32 => (.int r, (mk x y))) pg_X1_endsAt 5 [.ref 256, .int a1, .int a2, .int a3, .int a4, mU] [] (mk x y) (f_X1_endsAt_L5 a1 a2 n a3 a4 x) := by
  intro n
  induction n with
  | zero => intro a3 a4; exact mS_none
  | succ n ih =>
    intro a3 a4
    rw [f_X1_endsAt_L5]
    refine mS_steps (pc' := 9) (ls' := [.ref 256, .int a1, .int a2, .int a3, .int a4, mU]) (st' := [.int (8 : Int32), .int a4]) (mem' := (mk x y)) 2 rfl ?_
    refine mS_ic3 rfl (fun _ => ?_) (fun _ => ?_)
    · refine mS_steps (pc' := 70) (ls' := [.ref 256, .int a1, .int a2, .int a3, .int a4, mU]) (st' := [.int a3]) (mem' := (mk x y)) 1 rfl ?_
      exact mS_reti ⟨_, _, _, _, _, rfl, rfl⟩ rfl
    · refine mS_steps (pc' := 19) (ls' := [.ref 256, .int a1, .int a2, .int a3, .int a4, mU]) (st' := [.int a4, .int a1, .ref 258]) (mem' := (mk x y)) 4 rfl ?_
      refine mS_bind (fun q1 hq1 => mS_call 115 3 [.ref 258, .int a1, .int a4] [] rfl rfl rfl ⟨_, _, _, rfl, rfl⟩ (Nat.le_of_ble_eq_true rfl) (Nat.le_of_ble_eq_true rfl) hq1 (f_X3_without_258_snd a1 a4 x y) ?_)
      refine mS_steps (pc' := 32) (ls' := [.ref 256, .int a1, .int a2, .int a3, .int a4, .int q1]) (st' := [.int q1, .int a4, .ref 258]) (mem' := (mk x y)) 5 rfl ?_
      refine mS_bind (fun q2 hq2 => mS_call 170 3 [.ref 258, .int a4, .int q1] [] rfl rfl rfl ⟨_, _, _, rfl, rfl⟩ (Nat.le_of_ble_eq_true rfl) (Nat.le_of_ble_eq_true rfl) hq2 (f_X3_isLeast_258_snd a4 q1 (mk x y)) ?_)
      refine mS_steps (pc' := 35) (ls' := [.ref 256, .int a1, .int a2, .int a3, .int a4, .int q1]) (st' := [.int q2]) (mem' := (mk x y)) 0 rfl ?_
      refine mS_if0 rfl (fun _ => ?_) (fun _ => ?_)
      · refine mS_steps (pc' := 5) (ls' := [.ref 256, .int a1, .int a2, .int a3, .int (a4 + (1 : Int32)), .int q1]) (st' := []) (mem' := (mk x y)) 2 rfl ?_
        refine mS_forget [.ref 256, .int a1, .int a2, .int a3, .int (a4 + (1 : Int32)), mU] ⟨Or.inr rfl, Or.inr rfl, Or.inr rfl, Or.inr rfl, Or.inr rfl, Or.inl rfl, trivial⟩ ?_
        exact ih a3 (a4 + (1 : Int32))
      · refine mS_steps (pc' := 42) (ls' := [.ref 256, .int a1, .int a2, .int a3, .int a4, .int q1]) (st' := [.int (q1 &&& a2)]) (mem' := (mk x y)) 3 rfl ?_
        refine mS_if1 rfl (fun _ => ?_) (fun _ => ?_)
        · refine mS_steps (pc' := 55) (ls' := [.ref 256, .int a1, .int a2, .int a3, .int a4, .int q1]) (st' := [.int a1, .ref 259, .int q1]) (mem' := (mk x y)) 5 rfl ?_
          refine mS_ald (b := 0) (n := 8) (z := (x.1 259 a1.toNatClampNeg)) rfl (by decide) rfl (by decide) rfl (fun _ => ?_)
          refine mS_steps (pc' := 57) (ls' := [.ref 256, .int a1, .int a2, .int a3, .int a4, .int q1]) (st' := [.int (q1 &&& (x.1 259 a1.toNatClampNeg))]) (mem' := (mk x y)) 1 rfl ?_
          refine mS_if0 rfl (fun _ => ?_) (fun _ => ?_)
          · refine mS_steps (pc' := 5) (ls' := [.ref 256, .int a1, .int a2, .int a3, .int (a4 + (1 : Int32)), .int q1]) (st' := []) (mem' := (mk x y)) 2 rfl ?_
            refine mS_forget [.ref 256, .int a1, .int a2, .int a3, .int (a4 + (1 : Int32)), mU] ⟨Or.inr rfl, Or.inr rfl, Or.inr rfl, Or.inr rfl, Or.inr rfl, Or.inl rfl, trivial⟩ ?_
            exact ih a3 (a4 + (1 : Int32))
          · refine mS_steps (pc' := 5) (ls' := [.ref 256, .int a1, .int a2, .int (a3 + (1 : Int32)), .int (a4 + (1 : Int32)), .int q1]) (st' := []) (mem' := (mk x y)) 3 rfl ?_
            refine mS_forget [.ref 256, .int a1, .int a2, .int (a3 + (1 : Int32)), .int (a4 + (1 : Int32)), mU] ⟨Or.inr rfl, Or.inr rfl, Or.inr rfl, Or.inr rfl, Or.inr rfl, Or.inl rfl, trivial⟩ ?_
            exact ih (a3 + (1 : Int32)) (a4 + (1 : Int32))
        · refine mS_steps (pc' := 5) (ls' := [.ref 256, .int a1, .int a2, .int a3, .int (a4 + (1 : Int32)), .int q1]) (st' := []) (mem' := (mk x y)) 2 rfl ?_
          refine mS_forget [.ref 256, .int a1, .int a2, .int a3, .int (a4 + (1 : Int32)), mU] ⟨Or.inr rfl, Or.inr rfl, Or.inr rfl, Or.inr rfl, Or.inr rfl, Or.inl rfl, trivial⟩ ?_
          exact ih a3 (a4 + (1 : Int32))
set_option maxRecDepth 20000 in
set_option maxHeartbeats 2000000 in
theorem f_X1_endsAt_snd {fm : Value} {L : Nat} {xs : Nat → Int32} (p1 : Int32) (p2 : Int32) (x : mX) (y : mY) : mS fm L xs (fun r : Int32 => (.int r, (mk x y))) pg_X1_endsAt 0 (m_entry [.ref 256, .int p1, .int p2] 6) [] (mk x y) ((f_X1_endsAt p1 p2 x)) := by
  unfold f_X1_endsAt
  refine mS_steps (pc' := 0) (ls' := [.ref 256, .int p1, .int p2, mU, mU, mU]) (st' := []) (mem' := (mk x y)) 0 rfl ?_
  refine mS_steps (pc' := 5) (ls' := [.ref 256, .int p1, .int p2, .int (0 : Int32), .int (0 : Int32), mU]) (st' := []) (mem' := (mk x y)) 4 rfl ?_
  refine f_X1_endsAt_L5_snd p1 p2 x y mF (0 : Int32) (0 : Int32)
def f_X1_need_L47 (a1 : Int32) : Nat → Int32 → Int32 → Int32 → Int32 → mX → (Int32 → Int32 → Int32 → Option Int32) → Option Int32
  | 0, _, _, _, _, _, _ => none
  | n + 1, a2, a3, a4, a5, x, k130 => (if (8 : Int32) ≤ a5 then (k130 a2 a3 a4) else (if m_in a5 8 = true then ((f_X3_isLeast 258 a5 (x.1 260 a5.toNatClampNeg)).bind fun q3 => (m_jn (fun v5 => (if (f_X10_has a1 a5) = 0 then (f_X1_need_L47 a1 n a2 a3 v5 (a5 + (1 : Int32)) x k130) else ((f_X1_partsWithout a5 x).bind fun q6 => ((f_X1_endsAt a5 a1 x).bind fun q7 => (f_X1_need_L47 a1 n (if a2 < q6 then q6 else a2) (a3 + q7) v5 (a5 + (1 : Int32)) x k130))))) (fun j4 => if q3 = 0 then (j4 a4) else (if m_in a5 8 = true then (if ((x.1 260 a5.toNatClampNeg) &&& a1) = 0 then (j4 (a4 + (1 : Int32))) else (j4 a4)) else none)))) else none))
def f_X1_need (x : mX) : Option Int32 := ((f_J6_bitCount_0f7a4 (x.1 258 0)).bind fun q1 => (if (2 : Int32) < q1 then ((f_X3_cutPosts 258 x).bind fun q2 => (f_X1_need_L47 q2 mF (0 : Int32) (0 : Int32) (0 : Int32) (0 : Int32) x (fun v8 v9 v10 => (m_jn (fun _ => (some (if (v8 - (1 : Int32)) < (((v9 + (1 : Int32)) / (2 : Int32)) + v10) then (((v9 + (1 : Int32)) / (2 : Int32)) + v10) else (v8 - (1 : Int32))))) (fun j11 => if v10 = (1 : Int32) then (if v9 = 0 then (some (0 : Int32)) else (j11 ())) else (j11 ())))))) else ((f_X3_pieceAt 258 (-1 : Int32) x).bind fun q12 => (some (if (q12 - (1 : Int32)) < (0 : Int32) then (0 : Int32) else (q12 - (1 : Int32)))))))
set_option maxRecDepth 20000 in
set_option maxHeartbeats 2000000 in
theorem f_X1_need_L47_snd {fm : Value} {L : Nat} {xs : Nat → Int32} (a1 : Int32) (x : mX) (y : mY) (k130 : Int32 → Int32 → Int32 → Option Int32) (hk130 : ∀ (b2 : Int32) (b3 : Int32) (b4 : Int32), mS fm L xs (fun r : Int32 => (.int r, (mk x y))) pg_X1_need 130 [mU, mU, .int b2, .int b3, .int b4, mU] [] (mk x y) (k130 b2 b3 b4)) : ∀ (n : Nat) (a2 : Int32) (a3 : Int32) (a4 : Int32) (a5 : Int32), mS fm L xs (fun r : Int32 => (.int r, (mk x y))) pg_X1_need 47 [.ref 256, .int a1, .int a2, .int a3, .int a4, .int a5] [] (mk x y) (f_X1_need_L47 a1 n a2 a3 a4 a5 x k130) := by
  intro n
  induction n with
  | zero => intro a2 a3 a4 a5; exact mS_none
  | succ n ih =>
    intro a2 a3 a4 a5
    rw [f_X1_need_L47]
    refine mS_steps (pc' := 51) (ls' := [.ref 256, .int a1, .int a2, .int a3, .int a4, .int a5]) (st' := [.int (8 : Int32), .int a5]) (mem' := (mk x y)) 2 rfl ?_
    refine mS_ic3 rfl (fun _ => ?_) (fun _ => ?_)
    · refine mS_forget [mU, mU, .int a2, .int a3, .int a4, mU] ⟨Or.inl rfl, Or.inl rfl, Or.inr rfl, Or.inr rfl, Or.inr rfl, Or.inl rfl, trivial⟩ ?_
      exact hk130 a2 a3 a4
    · refine mS_steps (pc' := 69) (ls' := [.ref 256, .int a1, .int a2, .int a3, .int a4, .int a5]) (st' := [.int a5, .ref 260, .int a5, .ref 258]) (mem' := (mk x y)) 7 rfl ?_
      refine mS_ald (b := 0) (n := 8) (z := (x.1 260 a5.toNatClampNeg)) rfl (by decide) rfl (by decide) rfl (fun _ => ?_)
      refine mS_bind (fun q3 hq3 => mS_call 170 3 [.ref 258, .int a5, .int (x.1 260 a5.toNatClampNeg)] [] rfl rfl rfl ⟨_, _, _, rfl, rfl⟩ (Nat.le_of_ble_eq_true rfl) (Nat.le_of_ble_eq_true rfl) hq3 (f_X3_isLeast_258_snd a5 (x.1 260 a5.toNatClampNeg) (mk x y)) ?_)
      refine mS_steps (pc' := 73) (ls' := [.ref 256, .int a1, .int a2, .int a3, .int a4, .int a5]) (st' := [.int q3]) (mem' := (mk x y)) 0 rfl ?_
      refine mS_jn (fun j => ∀ z : Int32, mS fm L xs (fun r : Int32 => (.int r, (mk x y))) pg_X1_need 94 [.ref 256, .int a1, .int a2, .int a3, .int z, .int a5] [] (mk x y) (j z)) ?_ ?_
      · intro z
        revert z; intro v5
        refine mS_steps (pc' := 97) (ls' := [.ref 256, .int a1, .int a2, .int a3, .int v5, .int a5]) (st' := [.int a5, .int a1]) (mem' := (mk x y)) 2 rfl ?_
        refine mS_call (q := (f_X10_has a1 a5)) 57 2 [.int a1, .int a5] [] rfl rfl rfl ⟨_, _, _, rfl, rfl⟩ (Nat.le_of_ble_eq_true rfl) (Nat.le_of_ble_eq_true rfl) rfl (f_X10_has_snd a1 a5 (mk x y)) ?_
        refine mS_steps (pc' := 100) (ls' := [.ref 256, .int a1, .int a2, .int a3, .int v5, .int a5]) (st' := [.int (f_X10_has a1 a5)]) (mem' := (mk x y)) 0 rfl ?_
        refine mS_if0 rfl (fun _ => ?_) (fun _ => ?_)
        · refine mS_steps (pc' := 47) (ls' := [.ref 256, .int a1, .int a2, .int a3, .int v5, .int (a5 + (1 : Int32))]) (st' := []) (mem' := (mk x y)) 2 rfl ?_
          exact ih a2 a3 v5 (a5 + (1 : Int32))
        · refine mS_steps (pc' := 107) (ls' := [.ref 256, .int a1, .int a2, .int a3, .int v5, .int a5]) (st' := [.int a5, .ref 256, .int a2]) (mem' := (mk x y)) 3 rfl ?_
          refine mS_bind (fun q6 hq6 => mS_call 255 2 [.ref 256, .int a5] [.int a2] rfl rfl rfl ⟨_, _, _, rfl, rfl⟩ (Nat.le_of_ble_eq_true rfl) (Nat.le_of_ble_eq_true rfl) hq6 (f_X1_partsWithout_snd a5 x y) ?_)
          refine mS_steps (pc' := 119) (ls' := [.ref 256, .int a1, .int (if a2 < q6 then q6 else a2), .int a3, .int v5, .int a5]) (st' := [.int a1, .int a5, .ref 256, .int a3]) (mem' := (mk x y)) 6 rfl ?_
          refine mS_bind (fun q7 hq7 => mS_call 256 3 [.ref 256, .int a5, .int a1] [.int a3] rfl rfl rfl ⟨_, _, _, rfl, rfl⟩ (Nat.le_of_ble_eq_true rfl) (Nat.le_of_ble_eq_true rfl) hq7 (f_X1_endsAt_snd a5 a1 x y) ?_)
          refine mS_steps (pc' := 47) (ls' := [.ref 256, .int a1, .int (if a2 < q6 then q6 else a2), .int (a3 + q7), .int v5, .int (a5 + (1 : Int32))]) (st' := []) (mem' := (mk x y)) 4 rfl ?_
          exact ih (if a2 < q6 then q6 else a2) (a3 + q7) v5 (a5 + (1 : Int32))
      intro j4 hj4
      refine mS_if0 rfl (fun _ => ?_) (fun _ => ?_)
      · exact hj4 a4
      · refine mS_steps (pc' := 85) (ls' := [.ref 256, .int a1, .int a2, .int a3, .int a4, .int a5]) (st' := [.int a5, .ref 260]) (mem' := (mk x y)) 4 rfl ?_
        refine mS_ald (b := 0) (n := 8) (z := (x.1 260 a5.toNatClampNeg)) rfl (by decide) rfl (by decide) rfl (fun _ => ?_)
        refine mS_steps (pc' := 88) (ls' := [.ref 256, .int a1, .int a2, .int a3, .int a4, .int a5]) (st' := [.int ((x.1 260 a5.toNatClampNeg) &&& a1)]) (mem' := (mk x y)) 2 rfl ?_
        refine mS_if1 rfl (fun _ => ?_) (fun _ => ?_)
        · refine mS_steps (pc' := 94) (ls' := [.ref 256, .int a1, .int a2, .int a3, .int (a4 + (1 : Int32)), .int a5]) (st' := []) (mem' := (mk x y)) 1 rfl ?_
          exact hj4 (a4 + (1 : Int32))
        · exact hj4 a4
set_option maxRecDepth 20000 in
set_option maxHeartbeats 2000000 in
theorem f_X1_need_snd {fm : Value} {L : Nat} {xs : Nat → Int32} (x : mX) (y : mY) : mS fm L xs (fun r : Int32 => (.int r, (mk x y))) pg_X1_need 0 (m_entry [.ref 256] 6) [] (mk x y) ((f_X1_need x)) := by
  unfold f_X1_need
  refine mS_steps (pc' := 0) (ls' := [.ref 256, mU, mU, mU, mU, mU]) (st' := []) (mem' := (mk x y)) 0 rfl ?_
  refine mS_steps (pc' := 7) (ls' := [.ref 256, mU, mU, mU, mU, mU]) (st' := [.int (x.1 258 0)]) (mem' := (mk x y)) 3 rfl ?_
  refine mS_bind (fun q1 hq1 => mS_call 254 1 [.int (x.1 258 0)] [] rfl rfl rfl ⟨_, _, _, rfl, rfl⟩ (Nat.le_of_ble_eq_true rfl) (Nat.le_of_ble_eq_true rfl) hq1 (f_J6_bitCount_0f7a4_snd (x.1 258 0) (mk x y)) ?_)
  refine mS_steps (pc' := 11) (ls' := [.ref 256, mU, mU, mU, mU, mU]) (st' := [.int (2 : Int32), .int q1]) (mem' := (mk x y)) 1 rfl ?_
  refine mS_ic4 rfl (fun _ => ?_) (fun _ => ?_)
  · refine mS_steps (pc' := 33) (ls' := [.ref 256, mU, mU, mU, mU, mU]) (st' := [.ref 258]) (mem' := (mk x y)) 2 rfl ?_
    refine mS_bind (fun q2 hq2 => mS_call 179 1 [.ref 258] [] rfl rfl rfl ⟨_, _, _, rfl, rfl⟩ (Nat.le_of_ble_eq_true rfl) (Nat.le_of_ble_eq_true rfl) hq2 (f_X3_cutPosts_258_snd  x y) ?_)
    refine mS_steps (pc' := 47) (ls' := [.ref 256, .int q2, .int (0 : Int32), .int (0 : Int32), .int (0 : Int32), .int (0 : Int32)]) (st' := []) (mem' := (mk x y)) 9 rfl ?_
    refine f_X1_need_L47_snd q2 x y _ ?_ mF (0 : Int32) (0 : Int32) (0 : Int32) (0 : Int32)
    · intro v8 v9 v10
      refine mS_steps (pc' := 133) (ls' := [mU, mU, .int v8, .int v9, .int v10, mU]) (st' := [.int (1 : Int32), .int v10]) (mem' := (mk x y)) 2 rfl ?_
      refine mS_jn (fun j => ∀ z : Unit, mS fm L xs (fun r : Int32 => (.int r, (mk x y))) pg_X1_need 142 [mU, mU, .int v8, .int v9, .int v10, mU] [] (mk x y) (j z)) ?_ ?_
      · intro z
        refine mS_steps (pc' := 149) (ls' := [mU, mU, .int v8, .int v9, .int v10, mU]) (st' := [.int (2 : Int32), .int (v9 + (1 : Int32)), .int (v8 - (1 : Int32))]) (mem' := (mk x y)) 7 rfl ?_
        refine mS_div rfl (by decide) ?_
        refine mS_steps (pc' := 156) (ls' := [mU, mU, .int v8, .int v9, .int v10, mU]) (st' := [.int (if (v8 - (1 : Int32)) < (((v9 + (1 : Int32)) / (2 : Int32)) + v10) then (((v9 + (1 : Int32)) / (2 : Int32)) + v10) else (v8 - (1 : Int32)))]) (mem' := (mk x y)) 3 rfl ?_
        exact mS_reti ⟨_, _, _, _, _, rfl, rfl⟩ rfl
      intro j11 hj11
      refine mS_ic1 rfl (fun _ => ?_) (fun _ => ?_)
      · refine mS_steps (pc' := 137) (ls' := [mU, mU, .int v8, .int v9, .int v10, mU]) (st' := [.int v9]) (mem' := (mk x y)) 1 rfl ?_
        refine mS_if1 rfl (fun _ => ?_) (fun _ => ?_)
        · refine mS_steps (pc' := 141) (ls' := [mU, mU, .int v8, .int v9, .int v10, mU]) (st' := [.int (0 : Int32)]) (mem' := (mk x y)) 1 rfl ?_
          exact mS_reti ⟨_, _, _, _, _, rfl, rfl⟩ rfl
        · exact hj11 ()
      · exact hj11 ()
  · refine mS_steps (pc' := 19) (ls' := [.ref 256, mU, mU, mU, mU, mU]) (st' := [.int (-1 : Int32), .ref 258]) (mem' := (mk x y)) 3 rfl ?_
    refine mS_bind (fun q12 hq12 => mS_call 171 2 [.ref 258, .int (-1 : Int32)] [] rfl rfl rfl ⟨_, _, _, rfl, rfl⟩ (Nat.le_of_ble_eq_true rfl) (Nat.le_of_ble_eq_true rfl) hq12 (f_X3_pieceAt_258_snd (-1 : Int32) x y) ?_)
    refine mS_steps (pc' := 28) (ls' := [.ref 256, mU, mU, mU, mU, mU]) (st' := [.int (if (q12 - (1 : Int32)) < (0 : Int32) then (0 : Int32) else (q12 - (1 : Int32)))]) (mem' := (mk x y)) 4 rfl ?_
    exact mS_reti ⟨_, _, _, _, _, rfl, rfl⟩ rfl
def f_X1_isNew (p1 : Int32) (p2 : Int32) (x : mX) : Option Int32 := (if (f_X10_has (x.1 258 0) p1) = 0 then (some (0 : Int32)) else (if (f_X10_has (x.1 258 0) p2) = 0 then (some (0 : Int32)) else (if m_in p1 8 = true then (if (f_X10_has (x.1 259 p1.toNatClampNeg) p2) = 0 then (some (1 : Int32)) else (some (0 : Int32))) else none)))
set_option maxRecDepth 20000 in
set_option maxHeartbeats 2000000 in
theorem f_X1_isNew_snd {fm : Value} {L : Nat} {xs : Nat → Int32} (p1 : Int32) (p2 : Int32) (x : mX) (y : mY) : mS fm L xs (fun r : Int32 => (.int r, (mk x y))) pg_X1_isNew 0 (m_entry [.ref 256, .int p1, .int p2] 3) [] (mk x y) ((f_X1_isNew p1 p2 x)) := by
  unfold f_X1_isNew
  refine mS_steps (pc' := 0) (ls' := [.ref 256, .int p1, .int p2]) (st' := []) (mem' := (mk x y)) 0 rfl ?_
  refine mS_steps (pc' := 8) (ls' := [.ref 256, .int p1, .int p2]) (st' := [.int p1, .int (x.1 258 0)]) (mem' := (mk x y)) 4 rfl ?_
  refine mS_call (q := (f_X10_has (x.1 258 0) p1)) 57 2 [.int (x.1 258 0), .int p1] [] rfl rfl rfl ⟨_, _, _, rfl, rfl⟩ (Nat.le_of_ble_eq_true rfl) (Nat.le_of_ble_eq_true rfl) rfl (f_X10_has_snd (x.1 258 0) p1 (mk x y)) ?_
  refine mS_steps (pc' := 11) (ls' := [.ref 256, .int p1, .int p2]) (st' := [.int (f_X10_has (x.1 258 0) p1)]) (mem' := (mk x y)) 0 rfl ?_
  refine mS_if0 rfl (fun _ => ?_) (fun _ => ?_)
  · refine mS_steps (pc' := 49) (ls' := [.ref 256, .int p1, .int p2]) (st' := [.int (0 : Int32)]) (mem' := (mk x y)) 1 rfl ?_
    exact mS_reti ⟨_, _, _, _, _, rfl, (by decide)⟩ rfl
  · refine mS_steps (pc' := 22) (ls' := [.ref 256, .int p1, .int p2]) (st' := [.int p2, .int (x.1 258 0)]) (mem' := (mk x y)) 4 rfl ?_
    refine mS_call (q := (f_X10_has (x.1 258 0) p2)) 57 2 [.int (x.1 258 0), .int p2] [] rfl rfl rfl ⟨_, _, _, rfl, rfl⟩ (Nat.le_of_ble_eq_true rfl) (Nat.le_of_ble_eq_true rfl) rfl (f_X10_has_snd (x.1 258 0) p2 (mk x y)) ?_
    refine mS_steps (pc' := 25) (ls' := [.ref 256, .int p1, .int p2]) (st' := [.int (f_X10_has (x.1 258 0) p2)]) (mem' := (mk x y)) 0 rfl ?_
    refine mS_if0 rfl (fun _ => ?_) (fun _ => ?_)
    · refine mS_steps (pc' := 49) (ls' := [.ref 256, .int p1, .int p2]) (st' := [.int (0 : Int32)]) (mem' := (mk x y)) 1 rfl ?_
      exact mS_reti ⟨_, _, _, _, _, rfl, (by decide)⟩ rfl
    · refine mS_steps (pc' := 36) (ls' := [.ref 256, .int p1, .int p2]) (st' := [.int p1, .ref 259]) (mem' := (mk x y)) 4 rfl ?_
      refine mS_ald (b := 0) (n := 8) (z := (x.1 259 p1.toNatClampNeg)) rfl (by decide) rfl (by decide) rfl (fun _ => ?_)
      refine mS_steps (pc' := 38) (ls' := [.ref 256, .int p1, .int p2]) (st' := [.int p2, .int (x.1 259 p1.toNatClampNeg)]) (mem' := (mk x y)) 1 rfl ?_
      refine mS_call (q := (f_X10_has (x.1 259 p1.toNatClampNeg) p2)) 57 2 [.int (x.1 259 p1.toNatClampNeg), .int p2] [] rfl rfl rfl ⟨_, _, _, rfl, rfl⟩ (Nat.le_of_ble_eq_true rfl) (Nat.le_of_ble_eq_true rfl) rfl (f_X10_has_snd (x.1 259 p1.toNatClampNeg) p2 (mk x y)) ?_
      refine mS_steps (pc' := 41) (ls' := [.ref 256, .int p1, .int p2]) (st' := [.int (f_X10_has (x.1 259 p1.toNatClampNeg) p2)]) (mem' := (mk x y)) 0 rfl ?_
      refine mS_if1 rfl (fun _ => ?_) (fun _ => ?_)
      · refine mS_steps (pc' := 49) (ls' := [.ref 256, .int p1, .int p2]) (st' := [.int (1 : Int32)]) (mem' := (mk x y)) 2 rfl ?_
        exact mS_reti ⟨_, _, _, _, _, rfl, (by decide)⟩ rfl
      · refine mS_steps (pc' := 49) (ls' := [.ref 256, .int p1, .int p2]) (st' := [.int (0 : Int32)]) (mem' := (mk x y)) 1 rfl ?_
        exact mS_reti ⟨_, _, _, _, _, rfl, (by decide)⟩ rfl
