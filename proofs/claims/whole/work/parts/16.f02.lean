/-! ===== methods as functions (written by wip/whole/gen/emitall.py) ===== -/
def f_X11_is (p1 : Int32) (y : mY) : Option Int32 := (if (y.1 279 12) = 0 then (if m_in (y.1 279 11) 403 = true then (if (y.1 282 (y.1 279 11).toNatClampNeg) = p1 then (some (1 : Int32)) else (some (0 : Int32))) else none) else (some (0 : Int32)))
set_option maxRecDepth 20000 in
set_option maxHeartbeats 2000000 in
theorem f_X11_is_snd {fm : Value} {L : Nat} {xs : Nat → Int32} (p1 : Int32) (y : mY) (x : mX) : mS fm L xs (fun r : Int32 => (.int r, (mk x y))) pg_X11_is 0 (m_entry [.ref 279, .int p1] 2) [] (mk x y) ((f_X11_is p1 y)) := by
  unfold f_X11_is
  refine mS_steps (pc' := 0) (ls' := [.ref 279, .int p1]) (st' := []) (mem' := (mk x y)) 0 rfl ?_
  refine mS_steps (pc' := 4) (ls' := [.ref 279, .int p1]) (st' := [.int (y.1 279 12)]) (mem' := (mk x y)) 2 rfl ?_
  refine mS_if1 rfl (fun _ => ?_) (fun _ => ?_)
  · refine mS_steps (pc' := 15) (ls' := [.ref 279, .int p1]) (st' := [.int (y.1 279 11), .ref 282]) (mem' := (mk x y)) 4 rfl ?_
    refine mS_ald (b := 0) (n := 403) (z := (y.1 282 (y.1 279 11).toNatClampNeg)) rfl (by decide) rfl (by decide) rfl (fun _ => ?_)
    refine mS_steps (pc' := 17) (ls' := [.ref 279, .int p1]) (st' := [.int p1, .int (y.1 282 (y.1 279 11).toNatClampNeg)]) (mem' := (mk x y)) 1 rfl ?_
    refine mS_ic1 rfl (fun _ => ?_) (fun _ => ?_)
    · refine mS_steps (pc' := 25) (ls' := [.ref 279, .int p1]) (st' := [.int (1 : Int32)]) (mem' := (mk x y)) 2 rfl ?_
      exact mS_reti ⟨_, _, _, _, _, rfl, (by decide)⟩ rfl
    · refine mS_steps (pc' := 25) (ls' := [.ref 279, .int p1]) (st' := [.int (0 : Int32)]) (mem' := (mk x y)) 1 rfl ?_
      exact mS_reti ⟨_, _, _, _, _, rfl, (by decide)⟩ rfl
  · refine mS_steps (pc' := 25) (ls' := [.ref 279, .int p1]) (st' := [.int (0 : Int32)]) (mem' := (mk x y)) 1 rfl ?_
    exact mS_reti ⟨_, _, _, _, _, rfl, (by decide)⟩ rfl
def f_X11_fail (p1 : Int32) (y : mY) : Option mY := (if (y.1 279 12) ≤ 0 then (m_let (m_ys y 279 12 p1) fun y1 => (if m_in (y1.1 279 11) 403 = true then (m_let (m_ys y1 279 13 (y1.1 283 (y1.1 279 11).toNatClampNeg)) fun y2 => (some y2)) else none)) else (some y))
set_option maxRecDepth 20000 in
set_option maxHeartbeats 2000000 in
theorem f_X11_fail_snd {fm : Value} {L : Nat} {xs : Nat → Int32} (p1 : Int32) (y : mY) (x : mX) : mS fm L xs (fun r : mY => (mU, mk x r)) pg_X11_fail 0 (m_entry [.ref 279, .int p1] 2) [] (mk x y) ((f_X11_fail p1 y)) := by
  unfold f_X11_fail
  refine mS_steps (pc' := 0) (ls' := [.ref 279, .int p1]) (st' := []) (mem' := (mk x y)) 0 rfl ?_
  refine mS_steps (pc' := 4) (ls' := [.ref 279, .int p1]) (st' := [.int (y.1 279 12)]) (mem' := (mk x y)) 2 rfl ?_
  refine mS_if5 rfl (fun _ => ?_) (fun _ => ?_)
  · refine mS_steps (pc' := 10) (ls' := [.ref 279, .int p1]) (st' := [.int p1, .ref 279]) (mem' := (mk x y)) 2 rfl ?_
    refine mS_puty rfl rfl (by decide) rfl ?_
    refine mS_lety (fun y1 => ?_)
    refine mS_steps (pc' := 22) (ls' := [.ref 279, .int p1]) (st' := [.int (y1.1 279 11), .ref 283, .ref 279]) (mem' := (mk x y1)) 5 rfl ?_
    refine mS_ald (b := 0) (n := 403) (z := (y1.1 283 (y1.1 279 11).toNatClampNeg)) rfl (by decide) rfl (by decide) rfl (fun _ => ?_)
    refine mS_puty rfl rfl (by decide) rfl ?_
    refine mS_lety (fun y2 => ?_)
    exact mS_retv ⟨_, _, _, _, _, rfl⟩ rfl
  · exact mS_retv ⟨_, _, _, _, _, rfl⟩ rfl
def f_X11_passes (y : mY) : Option mY := (if (y.1 279 11) = (400 : Int32) then ((f_X11_fail (2 : Int32) y).bind fun q1 => (some q1)) else (m_let (m_ys y 279 11 ((y.1 279 11) + (1 : Int32))) fun y2 => (some y2)))
set_option maxRecDepth 20000 in
set_option maxHeartbeats 2000000 in
theorem f_X11_passes_snd {fm : Value} {L : Nat} {xs : Nat → Int32} (y : mY) (x : mX) : mS fm L xs (fun r : mY => (mU, mk x r)) pg_X11_passes 0 (m_entry [.ref 279] 1) [] (mk x y) ((f_X11_passes y)) := by
  unfold f_X11_passes
  refine mS_steps (pc' := 0) (ls' := [.ref 279]) (st' := []) (mem' := (mk x y)) 0 rfl ?_
  refine mS_steps (pc' := 7) (ls' := [.ref 279]) (st' := [.int (400 : Int32), .int (y.1 279 11)]) (mem' := (mk x y)) 3 rfl ?_
  refine mS_ic1 rfl (fun _ => ?_) (fun _ => ?_)
  · refine mS_steps (pc' := 12) (ls' := [.ref 279]) (st' := [.int (2 : Int32), .ref 279]) (mem' := (mk x y)) 2 rfl ?_
    refine mS_bind (fun q1 hq1 => mS_call 75 2 [.ref 279, .int (2 : Int32)] [] rfl rfl rfl ⟨_, _, _, rfl, rfl⟩ (Nat.le_of_ble_eq_true rfl) (Nat.le_of_ble_eq_true rfl) hq1 (f_X11_fail_snd (2 : Int32) y x) ?_)
    refine mS_steps (pc' := 28) (ls' := [.ref 279]) (st' := []) (mem' := (mk x q1)) 1 rfl ?_
    exact mS_retv ⟨_, _, _, _, _, rfl⟩ rfl
  · refine mS_steps (pc' := 25) (ls' := [.ref 279]) (st' := [.int ((y.1 279 11) + (1 : Int32)), .ref 279]) (mem' := (mk x y)) 5 rfl ?_
    refine mS_puty rfl rfl (by decide) rfl ?_
    refine mS_lety (fun y2 => ?_)
    exact mS_retv ⟨_, _, _, _, _, rfl⟩ rfl
def f_X11_must (p1 : Int32) (y : mY) : Option mY := ((f_X11_is p1 y).bind fun q1 => (if q1 = 0 then ((f_X11_fail (1 : Int32) y).bind fun q2 => (some q2)) else ((f_X11_passes y).bind fun q3 => (some q3))))
set_option maxRecDepth 20000 in
set_option maxHeartbeats 2000000 in
theorem f_X11_must_snd {fm : Value} {L : Nat} {xs : Nat → Int32} (p1 : Int32) (y : mY) (x : mX) : mS fm L xs (fun r : mY => (mU, mk x r)) pg_X11_must 0 (m_entry [.ref 279, .int p1] 2) [] (mk x y) ((f_X11_must p1 y)) := by
  unfold f_X11_must
  refine mS_steps (pc' := 0) (ls' := [.ref 279, .int p1]) (st' := []) (mem' := (mk x y)) 0 rfl ?_
  refine mS_steps (pc' := 2) (ls' := [.ref 279, .int p1]) (st' := [.int p1, .ref 279]) (mem' := (mk x y)) 2 rfl ?_
  refine mS_bind (fun q1 hq1 => mS_call 74 2 [.ref 279, .int p1] [] rfl rfl rfl ⟨_, _, _, rfl, rfl⟩ (Nat.le_of_ble_eq_true rfl) (Nat.le_of_ble_eq_true rfl) hq1 (f_X11_is_snd p1 y x) ?_)
  refine mS_steps (pc' := 5) (ls' := [.ref 279, .int p1]) (st' := [.int q1]) (mem' := (mk x y)) 0 rfl ?_
  refine mS_if0 rfl (fun _ => ?_) (fun _ => ?_)
  · refine mS_steps (pc' := 17) (ls' := [.ref 279, .int p1]) (st' := [.int (1 : Int32), .ref 279]) (mem' := (mk x y)) 2 rfl ?_
    refine mS_bind (fun q2 hq2 => mS_call 75 2 [.ref 279, .int (1 : Int32)] [] rfl rfl rfl ⟨_, _, _, rfl, rfl⟩ (Nat.le_of_ble_eq_true rfl) (Nat.le_of_ble_eq_true rfl) hq2 (f_X11_fail_snd (1 : Int32) y x) ?_)
    refine mS_steps (pc' := 20) (ls' := [.ref 279, .int p1]) (st' := []) (mem' := (mk x q2)) 0 rfl ?_
    exact mS_retv ⟨_, _, _, _, _, rfl⟩ rfl
  · refine mS_steps (pc' := 9) (ls' := [.ref 279, .int p1]) (st' := [.ref 279]) (mem' := (mk x y)) 1 rfl ?_
    refine mS_bind (fun q3 hq3 => mS_call 76 1 [.ref 279] [] rfl rfl rfl ⟨_, _, _, rfl, rfl⟩ (Nat.le_of_ble_eq_true rfl) (Nat.le_of_ble_eq_true rfl) hq3 (f_X11_passes_snd  y x) ?_)
    refine mS_steps (pc' := 20) (ls' := [.ref 279, .int p1]) (st' := []) (mem' := (mk x q3)) 1 rfl ?_
    exact mS_retv ⟨_, _, _, _, _, rfl⟩ rfl
def f_X11_line (y : mY) : Option mY := (if m_in (y.1 279 11) 403 = true then (m_jn (fun _ => (m_jn (fun y3 => (if (y.1 282 (y.1 279 11).toNatClampNeg) < (20 : Int32) then ((f_X11_fail (1 : Int32) y3).bind fun q4 => (some q4)) else (if (y.1 282 (y.1 279 11).toNatClampNeg) ≤ (24 : Int32) then ((f_X11_passes y3).bind fun q5 => (m_jn (fun y7 => ((f_X11_must (1 : Int32) y7).bind fun q8 => (m_jn (fun y10 => (m_jn (fun _ => ((f_X11_must (1 : Int32) y10).bind fun q12 => (if (y.1 282 (y.1 279 11).toNatClampNeg) = (21 : Int32) then ((f_X11_must (2 : Int32) q12).bind fun q13 => ((f_X11_must (4 : Int32) q13).bind fun q14 => (some q14))) else ((f_X11_must (4 : Int32) q12).bind fun q15 => (some q15))))) (fun j11 => if (y.1 282 (y.1 279 11).toNatClampNeg) = (21 : Int32) then (j11 ()) else (if (y.1 282 (y.1 279 11).toNatClampNeg) = (24 : Int32) then (j11 ()) else (if (y.1 282 (y.1 279 11).toNatClampNeg) = (21 : Int32) then ((f_X11_must (2 : Int32) y10).bind fun q16 => ((f_X11_must (4 : Int32) q16).bind fun q17 => (some q17))) else ((f_X11_must (4 : Int32) y10).bind fun q18 => (some q18))))))) (fun j9 => if (y.1 282 (y.1 279 11).toNatClampNeg) = (21 : Int32) then (m_let (m_ys q8 279 20 ((q8.1 279 20) + (1 : Int32))) fun y19 => (j9 y19)) else (j9 q8))))) (fun j6 => if (y.1 282 (y.1 279 11).toNatClampNeg) = (20 : Int32) then ((f_X11_is (1 : Int32) q5).bind fun q20 => (if q20 = 0 then (j6 q5) else (if m_in (q5.1 279 11) 403 = true then (if m_in (q5.1 279 19) 8 = true then (m_let (m_yl q5 287 (q5.1 279 19).toNatClampNeg (q5.2 285 (q5.1 279 11).toNatClampNeg)) fun y21 => (m_let (m_ys y21 279 19 ((y21.1 279 19) + (1 : Int32))) fun y22 => (j6 y22))) else none) else none))) else (j6 q5)))) else ((f_X11_fail (1 : Int32) y3).bind fun q23 => (some q23))))) (fun j2 => if (y.1 282 (y.1 279 11).toNatClampNeg) = (21 : Int32) then (if (y.1 279 20) = (16 : Int32) then ((f_X11_fail (2 : Int32) y).bind fun q24 => (some q24)) else (j2 y)) else (j2 y)))) (fun j1 => if (y.1 282 (y.1 279 11).toNatClampNeg) = (20 : Int32) then (if (y.1 279 19) = (8 : Int32) then ((f_X11_fail (2 : Int32) y).bind fun q25 => (some q25)) else (j1 ())) else (j1 ()))) else none)
set_option maxRecDepth 20000 in
set_option maxHeartbeats 2000000 in
theorem f_X11_line_snd {fm : Value} {L : Nat} {xs : Nat → Int32} (y : mY) (x : mX) : mS fm L xs (fun r : mY => (mU, mk x r)) pg_X11_line 0 (m_entry [.ref 279] 2) [] (mk x y) ((f_X11_line y)) := by
  unfold f_X11_line
  refine mS_steps (pc' := 0) (ls' := [.ref 279, mU]) (st' := []) (mem' := (mk x y)) 0 rfl ?_
  refine mS_steps (pc' := 8) (ls' := [.ref 279, mU]) (st' := [.int (y.1 279 11), .ref 282]) (mem' := (mk x y)) 4 rfl ?_
  refine mS_ald (b := 0) (n := 403) (z := (y.1 282 (y.1 279 11).toNatClampNeg)) rfl (by decide) rfl (by decide) rfl (fun _ => ?_)
  refine mS_steps (pc' := 13) (ls' := [.ref 279, .int (y.1 282 (y.1 279 11).toNatClampNeg)]) (st' := [.int (20 : Int32), .int (y.1 282 (y.1 279 11).toNatClampNeg)]) (mem' := (mk x y)) 3 rfl ?_
  refine mS_jn (fun j => ∀ z : Unit, mS fm L xs (fun r : mY => (mU, mk x r)) pg_X11_line 25 [.ref 279, .int (y.1 282 (y.1 279 11).toNatClampNeg)] [] (mk x y) (j z)) ?_ ?_
  · intro z
    refine mS_steps (pc' := 28) (ls' := [.ref 279, .int (y.1 282 (y.1 279 11).toNatClampNeg)]) (st' := [.int (21 : Int32), .int (y.1 282 (y.1 279 11).toNatClampNeg)]) (mem' := (mk x y)) 2 rfl ?_
    refine mS_jn (fun j => ∀ z : mY, mS fm L xs (fun r : mY => (mU, mk x r)) pg_X11_line 46 [.ref 279, .int (y.1 282 (y.1 279 11).toNatClampNeg)] [] (mk x z) (j z)) ?_ ?_
    · intro z
      revert z; intro y3
      refine mS_steps (pc' := 49) (ls' := [.ref 279, .int (y.1 282 (y.1 279 11).toNatClampNeg)]) (st' := [.int (20 : Int32), .int (y.1 282 (y.1 279 11).toNatClampNeg)]) (mem' := (mk x y3)) 2 rfl ?_
      refine mS_ic2 rfl (fun _ => ?_) (fun _ => ?_)
      · refine mS_steps (pc' := 60) (ls' := [.ref 279, .int (y.1 282 (y.1 279 11).toNatClampNeg)]) (st' := [.int (1 : Int32), .ref 279]) (mem' := (mk x y3)) 2 rfl ?_
        refine mS_bind (fun q4 hq4 => mS_call 75 2 [.ref 279, .int (1 : Int32)] [] rfl rfl rfl ⟨_, _, _, rfl, rfl⟩ (Nat.le_of_ble_eq_true rfl) (Nat.le_of_ble_eq_true rfl) hq4 (f_X11_fail_snd (1 : Int32) y3 x) ?_)
        refine mS_steps (pc' := 63) (ls' := [.ref 279, .int (y.1 282 (y.1 279 11).toNatClampNeg)]) (st' := []) (mem' := (mk x q4)) 0 rfl ?_
        exact mS_retv ⟨_, _, _, _, _, rfl⟩ rfl
      · refine mS_steps (pc' := 55) (ls' := [.ref 279, .int (y.1 282 (y.1 279 11).toNatClampNeg)]) (st' := [.int (24 : Int32), .int (y.1 282 (y.1 279 11).toNatClampNeg)]) (mem' := (mk x y3)) 2 rfl ?_
        refine mS_ic5 rfl (fun _ => ?_) (fun _ => ?_)
        · refine mS_steps (pc' := 65) (ls' := [.ref 279, .int (y.1 282 (y.1 279 11).toNatClampNeg)]) (st' := [.ref 279]) (mem' := (mk x y3)) 1 rfl ?_
          refine mS_bind (fun q5 hq5 => mS_call 76 1 [.ref 279] [] rfl rfl rfl ⟨_, _, _, rfl, rfl⟩ (Nat.le_of_ble_eq_true rfl) (Nat.le_of_ble_eq_true rfl) hq5 (f_X11_passes_snd  y3 x) ?_)
          refine mS_steps (pc' := 71) (ls' := [.ref 279, .int (y.1 282 (y.1 279 11).toNatClampNeg)]) (st' := [.int (20 : Int32), .int (y.1 282 (y.1 279 11).toNatClampNeg)]) (mem' := (mk x q5)) 2 rfl ?_
          refine mS_jn (fun j => ∀ z : mY, mS fm L xs (fun r : mY => (mU, mk x r)) pg_X11_line 110 [.ref 279, .int (y.1 282 (y.1 279 11).toNatClampNeg)] [] (mk x z) (j z)) ?_ ?_
          · intro z
            revert z; intro y7
            refine mS_steps (pc' := 112) (ls' := [.ref 279, .int (y.1 282 (y.1 279 11).toNatClampNeg)]) (st' := [.int (1 : Int32), .ref 279]) (mem' := (mk x y7)) 2 rfl ?_
            refine mS_bind (fun q8 hq8 => mS_call 77 2 [.ref 279, .int (1 : Int32)] [] rfl rfl rfl ⟨_, _, _, rfl, rfl⟩ (Nat.le_of_ble_eq_true rfl) (Nat.le_of_ble_eq_true rfl) hq8 (f_X11_must_snd (1 : Int32) y7 x) ?_)
            refine mS_steps (pc' := 118) (ls' := [.ref 279, .int (y.1 282 (y.1 279 11).toNatClampNeg)]) (st' := [.int (21 : Int32), .int (y.1 282 (y.1 279 11).toNatClampNeg)]) (mem' := (mk x q8)) 2 rfl ?_
            refine mS_jn (fun j => ∀ z : mY, mS fm L xs (fun r : mY => (mU, mk x r)) pg_X11_line 131 [.ref 279, .int (y.1 282 (y.1 279 11).toNatClampNeg)] [] (mk x z) (j z)) ?_ ?_
            · intro z
              revert z; intro y10
              refine mS_steps (pc' := 134) (ls' := [.ref 279, .int (y.1 282 (y.1 279 11).toNatClampNeg)]) (st' := [.int (21 : Int32), .int (y.1 282 (y.1 279 11).toNatClampNeg)]) (mem' := (mk x y10)) 2 rfl ?_
              refine mS_jn (fun j => ∀ z : Unit, mS fm L xs (fun r : mY => (mU, mk x r)) pg_X11_line 143 [.ref 279, .int (y.1 282 (y.1 279 11).toNatClampNeg)] [] (mk x y10) (j z)) ?_ ?_
              · intro z
                refine mS_steps (pc' := 145) (ls' := [.ref 279, .int (y.1 282 (y.1 279 11).toNatClampNeg)]) (st' := [.int (1 : Int32), .ref 279]) (mem' := (mk x y10)) 2 rfl ?_
                refine mS_bind (fun q12 hq12 => mS_call 77 2 [.ref 279, .int (1 : Int32)] [] rfl rfl rfl ⟨_, _, _, rfl, rfl⟩ (Nat.le_of_ble_eq_true rfl) (Nat.le_of_ble_eq_true rfl) hq12 (f_X11_must_snd (1 : Int32) y10 x) ?_)
                refine mS_steps (pc' := 151) (ls' := [.ref 279, .int (y.1 282 (y.1 279 11).toNatClampNeg)]) (st' := [.int (21 : Int32), .int (y.1 282 (y.1 279 11).toNatClampNeg)]) (mem' := (mk x q12)) 2 rfl ?_
                refine mS_ic1 rfl (fun _ => ?_) (fun _ => ?_)
                · refine mS_steps (pc' := 156) (ls' := [.ref 279, .int (y.1 282 (y.1 279 11).toNatClampNeg)]) (st' := [.int (2 : Int32), .ref 279]) (mem' := (mk x q12)) 2 rfl ?_
                  refine mS_bind (fun q13 hq13 => mS_call 77 2 [.ref 279, .int (2 : Int32)] [] rfl rfl rfl ⟨_, _, _, rfl, rfl⟩ (Nat.le_of_ble_eq_true rfl) (Nat.le_of_ble_eq_true rfl) hq13 (f_X11_must_snd (2 : Int32) q12 x) ?_)
                  refine mS_steps (pc' := 161) (ls' := [.ref 279, .int (y.1 282 (y.1 279 11).toNatClampNeg)]) (st' := [.int (4 : Int32), .ref 279]) (mem' := (mk x q13)) 2 rfl ?_
                  refine mS_bind (fun q14 hq14 => mS_call 77 2 [.ref 279, .int (4 : Int32)] [] rfl rfl rfl ⟨_, _, _, rfl, rfl⟩ (Nat.le_of_ble_eq_true rfl) (Nat.le_of_ble_eq_true rfl) hq14 (f_X11_must_snd (4 : Int32) q13 x) ?_)
                  refine mS_steps (pc' := 164) (ls' := [.ref 279, .int (y.1 282 (y.1 279 11).toNatClampNeg)]) (st' := []) (mem' := (mk x q14)) 0 rfl ?_
                  exact mS_retv ⟨_, _, _, _, _, rfl⟩ rfl
                · refine mS_steps (pc' := 161) (ls' := [.ref 279, .int (y.1 282 (y.1 279 11).toNatClampNeg)]) (st' := [.int (4 : Int32), .ref 279]) (mem' := (mk x q12)) 2 rfl ?_
                  refine mS_bind (fun q15 hq15 => mS_call 77 2 [.ref 279, .int (4 : Int32)] [] rfl rfl rfl ⟨_, _, _, rfl, rfl⟩ (Nat.le_of_ble_eq_true rfl) (Nat.le_of_ble_eq_true rfl) hq15 (f_X11_must_snd (4 : Int32) q12 x) ?_)
                  refine mS_steps (pc' := 164) (ls' := [.ref 279, .int (y.1 282 (y.1 279 11).toNatClampNeg)]) (st' := []) (mem' := (mk x q15)) 0 rfl ?_
                  exact mS_retv ⟨_, _, _, _, _, rfl⟩ rfl
              intro j11 hj11
              refine mS_ic0 rfl (fun _ => ?_) (fun _ => ?_)
              · exact hj11 ()
              · refine mS_steps (pc' := 140) (ls' := [.ref 279, .int (y.1 282 (y.1 279 11).toNatClampNeg)]) (st' := [.int (24 : Int32), .int (y.1 282 (y.1 279 11).toNatClampNeg)]) (mem' := (mk x y10)) 2 rfl ?_
                refine mS_ic1 rfl (fun _ => ?_) (fun _ => ?_)
                · exact hj11 ()
                · refine mS_steps (pc' := 151) (ls' := [.ref 279, .int (y.1 282 (y.1 279 11).toNatClampNeg)]) (st' := [.int (21 : Int32), .int (y.1 282 (y.1 279 11).toNatClampNeg)]) (mem' := (mk x y10)) 2 rfl ?_
                  refine mS_ic1 rfl (fun _ => ?_) (fun _ => ?_)
                  · refine mS_steps (pc' := 156) (ls' := [.ref 279, .int (y.1 282 (y.1 279 11).toNatClampNeg)]) (st' := [.int (2 : Int32), .ref 279]) (mem' := (mk x y10)) 2 rfl ?_
                    refine mS_bind (fun q16 hq16 => mS_call 77 2 [.ref 279, .int (2 : Int32)] [] rfl rfl rfl ⟨_, _, _, rfl, rfl⟩ (Nat.le_of_ble_eq_true rfl) (Nat.le_of_ble_eq_true rfl) hq16 (f_X11_must_snd (2 : Int32) y10 x) ?_)
                    refine mS_steps (pc' := 161) (ls' := [.ref 279, .int (y.1 282 (y.1 279 11).toNatClampNeg)]) (st' := [.int (4 : Int32), .ref 279]) (mem' := (mk x q16)) 2 rfl ?_
                    refine mS_bind (fun q17 hq17 => mS_call 77 2 [.ref 279, .int (4 : Int32)] [] rfl rfl rfl ⟨_, _, _, rfl, rfl⟩ (Nat.le_of_ble_eq_true rfl) (Nat.le_of_ble_eq_true rfl) hq17 (f_X11_must_snd (4 : Int32) q16 x) ?_)
                    refine mS_steps (pc' := 164) (ls' := [.ref 279, .int (y.1 282 (y.1 279 11).toNatClampNeg)]) (st' := []) (mem' := (mk x q17)) 0 rfl ?_
                    exact mS_retv ⟨_, _, _, _, _, rfl⟩ rfl
                  · refine mS_steps (pc' := 161) (ls' := [.ref 279, .int (y.1 282 (y.1 279 11).toNatClampNeg)]) (st' := [.int (4 : Int32), .ref 279]) (mem' := (mk x y10)) 2 rfl ?_
                    refine mS_bind (fun q18 hq18 => mS_call 77 2 [.ref 279, .int (4 : Int32)] [] rfl rfl rfl ⟨_, _, _, rfl, rfl⟩ (Nat.le_of_ble_eq_true rfl) (Nat.le_of_ble_eq_true rfl) hq18 (f_X11_must_snd (4 : Int32) y10 x) ?_)
                    refine mS_steps (pc' := 164) (ls' := [.ref 279, .int (y.1 282 (y.1 279 11).toNatClampNeg)]) (st' := []) (mem' := (mk x q18)) 0 rfl ?_
                    exact mS_retv ⟨_, _, _, _, _, rfl⟩ rfl
            intro j9 hj9
            refine mS_ic1 rfl (fun _ => ?_) (fun _ => ?_)
            · refine mS_steps (pc' := 128) (ls' := [.ref 279, .int (y.1 282 (y.1 279 11).toNatClampNeg)]) (st' := [.int ((q8.1 279 20) + (1 : Int32)), .ref 279]) (mem' := (mk x q8)) 5 rfl ?_
              refine mS_puty rfl rfl (by decide) rfl ?_
              refine mS_lety (fun y19 => ?_)
              exact hj9 y19
            · exact hj9 q8
          intro j6 hj6
          refine mS_ic1 rfl (fun _ => ?_) (fun _ => ?_)
          · refine mS_steps (pc' := 76) (ls' := [.ref 279, .int (y.1 282 (y.1 279 11).toNatClampNeg)]) (st' := [.int (1 : Int32), .ref 279]) (mem' := (mk x q5)) 2 rfl ?_
            refine mS_bind (fun q20 hq20 => mS_call 74 2 [.ref 279, .int (1 : Int32)] [] rfl rfl rfl ⟨_, _, _, rfl, rfl⟩ (Nat.le_of_ble_eq_true rfl) (Nat.le_of_ble_eq_true rfl) hq20 (f_X11_is_snd (1 : Int32) q5 x) ?_)
            refine mS_steps (pc' := 79) (ls' := [.ref 279, .int (y.1 282 (y.1 279 11).toNatClampNeg)]) (st' := [.int q20]) (mem' := (mk x q5)) 0 rfl ?_
            refine mS_if0 rfl (fun _ => ?_) (fun _ => ?_)
            · exact hj6 q5
            · refine mS_steps (pc' := 98) (ls' := [.ref 279, .int (y.1 282 (y.1 279 11).toNatClampNeg)]) (st' := [.int (q5.1 279 11), .ref 285, .int (q5.1 279 19), .ref 287]) (mem' := (mk x q5)) 8 rfl ?_
              refine mS_lald (b := 1) (n := 403) (z := (q5.2 285 (q5.1 279 11).toNatClampNeg)) rfl rfl (by decide) rfl (fun _ => ?_)
              refine mS_lastorey (n := 8) rfl rfl (by decide) (fun _ => ?_)
              refine mS_lety (fun y21 => ?_)
              refine mS_steps (pc' := 107) (ls' := [.ref 279, .int (y.1 282 (y.1 279 11).toNatClampNeg)]) (st' := [.int ((y21.1 279 19) + (1 : Int32)), .ref 279]) (mem' := (mk x y21)) 5 rfl ?_
              refine mS_puty rfl rfl (by decide) rfl ?_
              refine mS_lety (fun y22 => ?_)
              exact hj6 y22
          · exact hj6 q5
        · refine mS_steps (pc' := 60) (ls' := [.ref 279, .int (y.1 282 (y.1 279 11).toNatClampNeg)]) (st' := [.int (1 : Int32), .ref 279]) (mem' := (mk x y3)) 2 rfl ?_
          refine mS_bind (fun q23 hq23 => mS_call 75 2 [.ref 279, .int (1 : Int32)] [] rfl rfl rfl ⟨_, _, _, rfl, rfl⟩ (Nat.le_of_ble_eq_true rfl) (Nat.le_of_ble_eq_true rfl) hq23 (f_X11_fail_snd (1 : Int32) y3 x) ?_)
          refine mS_steps (pc' := 63) (ls' := [.ref 279, .int (y.1 282 (y.1 279 11).toNatClampNeg)]) (st' := []) (mem' := (mk x q23)) 0 rfl ?_
          exact mS_retv ⟨_, _, _, _, _, rfl⟩ rfl
    intro j2 hj2
    refine mS_ic1 rfl (fun _ => ?_) (fun _ => ?_)
    · refine mS_steps (pc' := 37) (ls' := [.ref 279, .int (y.1 282 (y.1 279 11).toNatClampNeg)]) (st' := [.int (16 : Int32), .int (y.1 279 20)]) (mem' := (mk x y)) 3 rfl ?_
      refine mS_ic1 rfl (fun _ => ?_) (fun _ => ?_)
      · refine mS_steps (pc' := 42) (ls' := [.ref 279, .int (y.1 282 (y.1 279 11).toNatClampNeg)]) (st' := [.int (2 : Int32), .ref 279]) (mem' := (mk x y)) 2 rfl ?_
        refine mS_bind (fun q24 hq24 => mS_call 75 2 [.ref 279, .int (2 : Int32)] [] rfl rfl rfl ⟨_, _, _, rfl, rfl⟩ (Nat.le_of_ble_eq_true rfl) (Nat.le_of_ble_eq_true rfl) hq24 (f_X11_fail_snd (2 : Int32) y x) ?_)
        refine mS_steps (pc' := 45) (ls' := [.ref 279, .int (y.1 282 (y.1 279 11).toNatClampNeg)]) (st' := []) (mem' := (mk x q24)) 0 rfl ?_
        exact mS_retv ⟨_, _, _, _, _, rfl⟩ rfl
      · exact hj2 y
    · exact hj2 y
  intro j1 hj1
  refine mS_ic1 rfl (fun _ => ?_) (fun _ => ?_)
  · refine mS_steps (pc' := 22) (ls' := [.ref 279, .int (y.1 282 (y.1 279 11).toNatClampNeg)]) (st' := [.int (8 : Int32), .int (y.1 279 19)]) (mem' := (mk x y)) 3 rfl ?_
    refine mS_ic0 rfl (fun _ => ?_) (fun _ => ?_)
    · refine mS_steps (pc' := 42) (ls' := [.ref 279, .int (y.1 282 (y.1 279 11).toNatClampNeg)]) (st' := [.int (2 : Int32), .ref 279]) (mem' := (mk x y)) 2 rfl ?_
      refine mS_bind (fun q25 hq25 => mS_call 75 2 [.ref 279, .int (2 : Int32)] [] rfl rfl rfl ⟨_, _, _, rfl, rfl⟩ (Nat.le_of_ble_eq_true rfl) (Nat.le_of_ble_eq_true rfl) hq25 (f_X11_fail_snd (2 : Int32) y x) ?_)
      refine mS_steps (pc' := 45) (ls' := [.ref 279, .int (y.1 282 (y.1 279 11).toNatClampNeg)]) (st' := []) (mem' := (mk x q25)) 0 rfl ?_
      exact mS_retv ⟨_, _, _, _, _, rfl⟩ rfl
    · exact hj1 ()
  · exact hj1 ()
def f_X11_wrong (p1 : Int32) (p2 : Int32) (y : mY) : Option mY := (if m_in p2 403 = true then (if 0 < (y.1 279 12) then (some y) else (if (y.1 279 14) = 0 then (m_let (m_ys y 279 14 p1) fun y1 => (m_let (m_ys y1 279 15 (y.1 283 p2.toNatClampNeg)) fun y2 => (some y2))) else (if (y.1 279 15) < (y.1 283 p2.toNatClampNeg) then (some y) else (if (y.1 283 p2.toNatClampNeg) = (y.1 279 15) then (if p1 < (y.1 279 14) then (m_let (m_ys y 279 14 p1) fun y3 => (m_let (m_ys y3 279 15 (y.1 283 p2.toNatClampNeg)) fun y4 => (some y4))) else (some y)) else (m_let (m_ys y 279 14 p1) fun y5 => (m_let (m_ys y5 279 15 (y.1 283 p2.toNatClampNeg)) fun y6 => (some y6))))))) else none)
set_option maxRecDepth 20000 in
set_option maxHeartbeats 2000000 in
theorem f_X11_wrong_snd {fm : Value} {L : Nat} {xs : Nat → Int32} (p1 : Int32) (p2 : Int32) (y : mY) (x : mX) : mS fm L xs (fun r : mY => (mU, mk x r)) pg_X11_wrong 0 (m_entry [.ref 279, .int p1, .int p2] 4) [] (mk x y) ((f_X11_wrong p1 p2 y)) := by
  unfold f_X11_wrong
  refine mS_steps (pc' := 0) (ls' := [.ref 279, .int p1, .int p2, mU]) (st' := []) (mem' := (mk x y)) 0 rfl ?_
  refine mS_steps (pc' := 5) (ls' := [.ref 279, .int p1, .int p2, mU]) (st' := [.int p2, .ref 283]) (mem' := (mk x y)) 3 rfl ?_
  refine mS_ald (b := 0) (n := 403) (z := (y.1 283 p2.toNatClampNeg)) rfl (by decide) rfl (by decide) rfl (fun _ => ?_)
  refine mS_steps (pc' := 11) (ls' := [.ref 279, .int p1, .int p2, .int (y.1 283 p2.toNatClampNeg)]) (st' := [.int (y.1 279 12)]) (mem' := (mk x y)) 3 rfl ?_
  refine mS_if4 rfl (fun _ => ?_) (fun _ => ?_)
  · exact mS_retv ⟨_, _, _, _, _, rfl⟩ rfl
  · refine mS_steps (pc' := 18) (ls' := [.ref 279, .int p1, .int p2, .int (y.1 283 p2.toNatClampNeg)]) (st' := [.int (y.1 279 14)]) (mem' := (mk x y)) 2 rfl ?_
    refine mS_if0 rfl (fun _ => ?_) (fun _ => ?_)
    · refine mS_steps (pc' := 48) (ls' := [.ref 279, .int p1, .int p2, .int (y.1 283 p2.toNatClampNeg)]) (st' := [.int p1, .ref 279]) (mem' := (mk x y)) 2 rfl ?_
      refine mS_puty rfl rfl (by decide) rfl ?_
      refine mS_lety (fun y1 => ?_)
      refine mS_steps (pc' := 53) (ls' := [.ref 279, .int p1, .int p2, .int (y.1 283 p2.toNatClampNeg)]) (st' := [.int (y.1 283 p2.toNatClampNeg), .ref 279]) (mem' := (mk x y1)) 2 rfl ?_
      refine mS_puty rfl rfl (by decide) rfl ?_
      refine mS_lety (fun y2 => ?_)
      exact mS_retv ⟨_, _, _, _, _, rfl⟩ rfl
    · refine mS_steps (pc' := 26) (ls' := [.ref 279, .int p1, .int p2, .int (y.1 283 p2.toNatClampNeg)]) (st' := [.int (y.1 279 15), .int (y.1 283 p2.toNatClampNeg)]) (mem' := (mk x y)) 3 rfl ?_
      refine mS_ic4 rfl (fun _ => ?_) (fun _ => ?_)
      · exact mS_retv ⟨_, _, _, _, _, rfl⟩ rfl
      · refine mS_steps (pc' := 34) (ls' := [.ref 279, .int p1, .int p2, .int (y.1 283 p2.toNatClampNeg)]) (st' := [.int (y.1 279 15), .int (y.1 283 p2.toNatClampNeg)]) (mem' := (mk x y)) 3 rfl ?_
        refine mS_ic1 rfl (fun _ => ?_) (fun _ => ?_)
        · refine mS_steps (pc' := 42) (ls' := [.ref 279, .int p1, .int p2, .int (y.1 283 p2.toNatClampNeg)]) (st' := [.int (y.1 279 14), .int p1]) (mem' := (mk x y)) 3 rfl ?_
          refine mS_ic2 rfl (fun _ => ?_) (fun _ => ?_)
          · refine mS_steps (pc' := 48) (ls' := [.ref 279, .int p1, .int p2, .int (y.1 283 p2.toNatClampNeg)]) (st' := [.int p1, .ref 279]) (mem' := (mk x y)) 2 rfl ?_
            refine mS_puty rfl rfl (by decide) rfl ?_
            refine mS_lety (fun y3 => ?_)
            refine mS_steps (pc' := 53) (ls' := [.ref 279, .int p1, .int p2, .int (y.1 283 p2.toNatClampNeg)]) (st' := [.int (y.1 283 p2.toNatClampNeg), .ref 279]) (mem' := (mk x y3)) 2 rfl ?_
            refine mS_puty rfl rfl (by decide) rfl ?_
            refine mS_lety (fun y4 => ?_)
            exact mS_retv ⟨_, _, _, _, _, rfl⟩ rfl
          · exact mS_retv ⟨_, _, _, _, _, rfl⟩ rfl
        · refine mS_steps (pc' := 48) (ls' := [.ref 279, .int p1, .int p2, .int (y.1 283 p2.toNatClampNeg)]) (st' := [.int p1, .ref 279]) (mem' := (mk x y)) 2 rfl ?_
          refine mS_puty rfl rfl (by decide) rfl ?_
          refine mS_lety (fun y5 => ?_)
          refine mS_steps (pc' := 53) (ls' := [.ref 279, .int p1, .int p2, .int (y.1 283 p2.toNatClampNeg)]) (st' := [.int (y.1 283 p2.toNatClampNeg), .ref 279]) (mem' := (mk x y5)) 2 rfl ?_
          refine mS_puty rfl rfl (by decide) rfl ?_
          refine mS_lety (fun y6 => ?_)
          exact mS_retv ⟨_, _, _, _, _, rfl⟩ rfl
def f_X11_named_L2 (a1 : Int32) : Nat → Int32 → mY → Option Int32
  | 0, _, _ => none
  | n + 1, a2, y => (if (y.1 279 19) ≤ a2 then (some (-1 : Int32)) else (if m_in a2 8 = true then (if m_in a1 403 = true then (if (lg_cmp (y.2 287 a2.toNatClampNeg) (y.2 285 a1.toNatClampNeg)) = 0 then (some a2) else (f_X11_named_L2 a1 n (a2 + (1 : Int32)) y)) else none) else none))
def f_X11_named (p1 : Int32) (y : mY) : Option Int32 := (f_X11_named_L2 p1 mF (0 : Int32) y)
set_option maxRecDepth 20000 in
set_option maxHeartbeats 2000000 in
theorem f_X11_named_L2_snd {fm : Value} {L : Nat} {xs : Nat → Int32} (a1 : Int32) (y : mY) (x : mX) : ∀ (n : Nat) (a2 : Int32), mS fm L xs (fun r : Int32 => (.int r, (mk x y))) pg_X11_named 2 [.ref 279, .int a1, .int a2] [] (mk x y) (f_X11_named_L2 a1 n a2 y) := by
  intro n
  induction n with
  | zero => intro a2; exact mS_none
  | succ n ih =>
    intro a2
    rw [f_X11_named_L2]
    refine mS_steps (pc' := 7) (ls' := [.ref 279, .int a1, .int a2]) (st' := [.int (y.1 279 19), .int a2]) (mem' := (mk x y)) 3 rfl ?_
    refine mS_ic3 rfl (fun _ => ?_) (fun _ => ?_)
    · refine mS_steps (pc' := 35) (ls' := [.ref 279, .int a1, .int a2]) (st' := [.int (-1 : Int32)]) (mem' := (mk x y)) 1 rfl ?_
      exact mS_reti ⟨_, _, _, _, _, rfl, rfl⟩ rfl
    · refine mS_steps (pc' := 15) (ls' := [.ref 279, .int a1, .int a2]) (st' := [.int a2, .ref 287]) (mem' := (mk x y)) 3 rfl ?_
      refine mS_lald (b := 1) (n := 8) (z := (y.2 287 a2.toNatClampNeg)) rfl rfl (by decide) rfl (fun _ => ?_)
      refine mS_steps (pc' := 21) (ls' := [.ref 279, .int a1, .int a2]) (st' := [.int a1, .ref 285, .long (y.2 287 a2.toNatClampNeg)]) (mem' := (mk x y)) 3 rfl ?_
      refine mS_lald (b := 1) (n := 403) (z := (y.2 285 a1.toNatClampNeg)) rfl rfl (by decide) rfl (fun _ => ?_)
      refine mS_steps (pc' := 23) (ls' := [.ref 279, .int a1, .int a2]) (st' := [.int (lg_cmp (y.2 287 a2.toNatClampNeg) (y.2 285 a1.toNatClampNeg))]) (mem' := (mk x y)) 1 rfl ?_
      refine mS_if1 rfl (fun _ => ?_) (fun _ => ?_)
      · refine mS_steps (pc' := 27) (ls' := [.ref 279, .int a1, .int a2]) (st' := [.int a2]) (mem' := (mk x y)) 1 rfl ?_
        exact mS_reti ⟨_, _, _, _, _, rfl, rfl⟩ rfl
      · refine mS_steps (pc' := 2) (ls' := [.ref 279, .int a1, .int (a2 + (1 : Int32))]) (st' := []) (mem' := (mk x y)) 2 rfl ?_
        exact ih (a2 + (1 : Int32))
set_option maxRecDepth 20000 in
set_option maxHeartbeats 2000000 in
theorem f_X11_named_snd {fm : Value} {L : Nat} {xs : Nat → Int32} (p1 : Int32) (y : mY) (x : mX) : mS fm L xs (fun r : Int32 => (.int r, (mk x y))) pg_X11_named 0 (m_entry [.ref 279, .int p1] 3) [] (mk x y) ((f_X11_named p1 y)) := by
  unfold f_X11_named
  refine mS_steps (pc' := 0) (ls' := [.ref 279, .int p1, mU]) (st' := []) (mem' := (mk x y)) 0 rfl ?_
  refine mS_steps (pc' := 2) (ls' := [.ref 279, .int p1, .int (0 : Int32)]) (st' := []) (mem' := (mk x y)) 2 rfl ?_
  refine f_X11_named_L2_snd p1 y x mF (0 : Int32)
def f_X11_known (p1 : Int32) (y : mY) : Option (Int32 × mY) := ((f_X11_named p1 y).bind fun q1 => (if 0 ≤ q1 then (some (q1, y)) else ((f_X11_wrong (4 : Int32) p1 y).bind fun q2 => (some (q1, q2)))))
set_option maxRecDepth 20000 in
set_option maxHeartbeats 2000000 in
theorem f_X11_known_snd {fm : Value} {L : Nat} {xs : Nat → Int32} (p1 : Int32) (y : mY) (x : mX) : mS fm L xs (fun r : (Int32 × mY) => (.int r.1, mk x r.2)) pg_X11_known 0 (m_entry [.ref 279, .int p1] 3) [] (mk x y) ((f_X11_known p1 y)) := by
  unfold f_X11_known
  refine mS_steps (pc' := 0) (ls' := [.ref 279, .int p1, mU]) (st' := []) (mem' := (mk x y)) 0 rfl ?_
  refine mS_steps (pc' := 2) (ls' := [.ref 279, .int p1, mU]) (st' := [.int p1, .ref 279]) (mem' := (mk x y)) 2 rfl ?_
  refine mS_bind (fun q1 hq1 => mS_call 80 2 [.ref 279, .int p1] [] rfl rfl rfl ⟨_, _, _, rfl, rfl⟩ (Nat.le_of_ble_eq_true rfl) (Nat.le_of_ble_eq_true rfl) hq1 (f_X11_named_snd p1 y x) ?_)
  refine mS_steps (pc' := 7) (ls' := [.ref 279, .int p1, .int q1]) (st' := [.int q1]) (mem' := (mk x y)) 2 rfl ?_
  refine mS_if3 rfl (fun _ => ?_) (fun _ => ?_)
  · refine mS_steps (pc' := 17) (ls' := [.ref 279, .int p1, .int q1]) (st' := [.int q1]) (mem' := (mk x y)) 1 rfl ?_
    exact mS_reti ⟨_, _, _, _, _, rfl, rfl⟩ rfl
  · refine mS_steps (pc' := 13) (ls' := [.ref 279, .int p1, .int q1]) (st' := [.int p1, .int (4 : Int32), .ref 279]) (mem' := (mk x y)) 3 rfl ?_
    refine mS_bind (fun q2 hq2 => mS_call 79 3 [.ref 279, .int (4 : Int32), .int p1] [] rfl rfl rfl ⟨_, _, _, rfl, rfl⟩ (Nat.le_of_ble_eq_true rfl) (Nat.le_of_ble_eq_true rfl) hq2 (f_X11_wrong_snd (4 : Int32) p1 y x) ?_)
    refine mS_steps (pc' := 17) (ls' := [.ref 279, .int p1, .int q1]) (st' := [.int q1]) (mem' := (mk x q2)) 1 rfl ?_
    exact mS_reti ⟨_, _, _, _, _, rfl, rfl⟩ rfl
def f_X11_isLinked_L3 (a1 : Int32) (a2 : Int32) (a3 : Int32) : Nat → Int32 → mY → Option Int32
  | 0, _, _ => none
  | n + 1, a4, y => (if a3 ≤ a4 then (some (0 : Int32)) else (if m_in a4 403 = true then (if (y.1 282 a4.toNatClampNeg) = (21 : Int32) then ((f_X11_named (a4 + (1 : Int32)) y).bind fun q1 => ((f_X11_named (a4 + (2 : Int32)) y).bind fun q2 => (m_jn (fun _ => (if q1 = a2 then (if q2 = a1 then (some (1 : Int32)) else (f_X11_isLinked_L3 a1 a2 a3 n (a4 + (1 : Int32)) y)) else (f_X11_isLinked_L3 a1 a2 a3 n (a4 + (1 : Int32)) y))) (fun j3 => if q1 = a1 then (if q2 = a2 then (some (1 : Int32)) else (j3 ())) else (j3 ()))))) else (f_X11_isLinked_L3 a1 a2 a3 n (a4 + (1 : Int32)) y)) else none))
def f_X11_isLinked (p1 : Int32) (p2 : Int32) (p3 : Int32) (y : mY) : Option Int32 := (f_X11_isLinked_L3 p1 p2 p3 mF (0 : Int32) y)
set_option maxRecDepth 20000 in
set_option maxHeartbeats 2000000 in
theorem f_X11_isLinked_L3_snd {fm : Value} {L : Nat} {xs : Nat → Int32} (a1 : Int32) (a2 : Int32) (a3 : Int32) (y : mY) (x : mX) : ∀ (n : Nat) (a4 : Int32), mS fm L xs (fun r : Int32 => (.int r, (mk x y))) pg_X11_isLinked 3 [.ref 279, .int a1, .int a2, .int a3, .int a4, mU, mU] [] (mk x y) (f_X11_isLinked_L3 a1 a2 a3 n a4 y) := by
  intro n
  induction n with
  | zero => intro a4; exact mS_none
  | succ n ih =>
    intro a4
    rw [f_X11_isLinked_L3]
    refine mS_steps (pc' := 6) (ls' := [.ref 279, .int a1, .int a2, .int a3, .int a4, mU, mU]) (st' := [.int a3, .int a4]) (mem' := (mk x y)) 2 rfl ?_
    refine mS_ic3 rfl (fun _ => ?_) (fun _ => ?_)
    · refine mS_steps (pc' := 77) (ls' := [.ref 279, .int a1, .int a2, .int a3, .int a4, mU, mU]) (st' := [.int (0 : Int32)]) (mem' := (mk x y)) 1 rfl ?_
      exact mS_reti ⟨_, _, _, _, _, rfl, (by decide)⟩ rfl
    · refine mS_steps (pc' := 15) (ls' := [.ref 279, .int a1, .int a2, .int a3, .int a4, mU, mU]) (st' := [.int a4, .ref 282]) (mem' := (mk x y)) 3 rfl ?_
      refine mS_ald (b := 0) (n := 403) (z := (y.1 282 a4.toNatClampNeg)) rfl (by decide) rfl (by decide) rfl (fun _ => ?_)
      refine mS_steps (pc' := 18) (ls' := [.ref 279, .int a1, .int a2, .int a3, .int a4, mU, mU]) (st' := [.int (21 : Int32), .int (y.1 282 a4.toNatClampNeg)]) (mem' := (mk x y)) 1 rfl ?_
      refine mS_ic0 rfl (fun _ => ?_) (fun _ => ?_)
      · refine mS_steps (pc' := 29) (ls' := [.ref 279, .int a1, .int a2, .int a3, .int a4, mU, mU]) (st' := [.int (a4 + (1 : Int32)), .ref 279]) (mem' := (mk x y)) 4 rfl ?_
        refine mS_bind (fun q1 hq1 => mS_call 80 2 [.ref 279, .int (a4 + (1 : Int32))] [] rfl rfl rfl ⟨_, _, _, rfl, rfl⟩ (Nat.le_of_ble_eq_true rfl) (Nat.le_of_ble_eq_true rfl) hq1 (f_X11_named_snd (a4 + (1 : Int32)) y x) ?_)
        refine mS_steps (pc' := 39) (ls' := [.ref 279, .int a1, .int a2, .int a3, .int a4, .int q1, mU]) (st' := [.int (a4 + (2 : Int32)), .ref 279]) (mem' := (mk x y)) 5 rfl ?_
        refine mS_bind (fun q2 hq2 => mS_call 80 2 [.ref 279, .int (a4 + (2 : Int32))] [] rfl rfl rfl ⟨_, _, _, rfl, rfl⟩ (Nat.le_of_ble_eq_true rfl) (Nat.le_of_ble_eq_true rfl) hq2 (f_X11_named_snd (a4 + (2 : Int32)) y x) ?_)
        refine mS_steps (pc' := 47) (ls' := [.ref 279, .int a1, .int a2, .int a3, .int a4, .int q1, .int q2]) (st' := [.int a1, .int q1]) (mem' := (mk x y)) 3 rfl ?_
        refine mS_jn (fun j => ∀ z : Unit, mS fm L xs (fun r : Int32 => (.int r, (mk x y))) pg_X11_isLinked 56 [.ref 279, .int a1, .int a2, .int a3, .int a4, .int q1, .int q2] [] (mk x y) (j z)) ?_ ?_
        · intro z
          refine mS_steps (pc' := 59) (ls' := [.ref 279, .int a1, .int a2, .int a3, .int a4, .int q1, .int q2]) (st' := [.int a2, .int q1]) (mem' := (mk x y)) 2 rfl ?_
          refine mS_ic1 rfl (fun _ => ?_) (fun _ => ?_)
          · refine mS_steps (pc' := 65) (ls' := [.ref 279, .int a1, .int a2, .int a3, .int a4, .int q1, .int q2]) (st' := [.int a1, .int q2]) (mem' := (mk x y)) 2 rfl ?_
            refine mS_ic1 rfl (fun _ => ?_) (fun _ => ?_)
            · refine mS_steps (pc' := 69) (ls' := [.ref 279, .int a1, .int a2, .int a3, .int a4, .int q1, .int q2]) (st' := [.int (1 : Int32)]) (mem' := (mk x y)) 1 rfl ?_
              exact mS_reti ⟨_, _, _, _, _, rfl, (by decide)⟩ rfl
            · refine mS_steps (pc' := 3) (ls' := [.ref 279, .int a1, .int a2, .int a3, .int (a4 + (1 : Int32)), .int q1, .int q2]) (st' := []) (mem' := (mk x y)) 2 rfl ?_
              refine mS_forget [.ref 279, .int a1, .int a2, .int a3, .int (a4 + (1 : Int32)), mU, mU] ⟨Or.inr rfl, Or.inr rfl, Or.inr rfl, Or.inr rfl, Or.inr rfl, Or.inl rfl, Or.inl rfl, trivial⟩ ?_
              exact ih (a4 + (1 : Int32))
          · refine mS_steps (pc' := 3) (ls' := [.ref 279, .int a1, .int a2, .int a3, .int (a4 + (1 : Int32)), .int q1, .int q2]) (st' := []) (mem' := (mk x y)) 2 rfl ?_
            refine mS_forget [.ref 279, .int a1, .int a2, .int a3, .int (a4 + (1 : Int32)), mU, mU] ⟨Or.inr rfl, Or.inr rfl, Or.inr rfl, Or.inr rfl, Or.inr rfl, Or.inl rfl, Or.inl rfl, trivial⟩ ?_
            exact ih (a4 + (1 : Int32))
        intro j3 hj3
        refine mS_ic1 rfl (fun _ => ?_) (fun _ => ?_)
        · refine mS_steps (pc' := 53) (ls' := [.ref 279, .int a1, .int a2, .int a3, .int a4, .int q1, .int q2]) (st' := [.int a2, .int q2]) (mem' := (mk x y)) 2 rfl ?_
          refine mS_ic0 rfl (fun _ => ?_) (fun _ => ?_)
          · refine mS_steps (pc' := 69) (ls' := [.ref 279, .int a1, .int a2, .int a3, .int a4, .int q1, .int q2]) (st' := [.int (1 : Int32)]) (mem' := (mk x y)) 1 rfl ?_
            exact mS_reti ⟨_, _, _, _, _, rfl, (by decide)⟩ rfl
          · exact hj3 ()
        · exact hj3 ()
      · refine mS_steps (pc' := 3) (ls' := [.ref 279, .int a1, .int a2, .int a3, .int (a4 + (1 : Int32)), mU, mU]) (st' := []) (mem' := (mk x y)) 3 rfl ?_
        exact ih (a4 + (1 : Int32))
set_option maxRecDepth 20000 in
set_option maxHeartbeats 2000000 in
theorem f_X11_isLinked_snd {fm : Value} {L : Nat} {xs : Nat → Int32} (p1 : Int32) (p2 : Int32) (p3 : Int32) (y : mY) (x : mX) : mS fm L xs (fun r : Int32 => (.int r, (mk x y))) pg_X11_isLinked 0 (m_entry [.ref 279, .int p1, .int p2, .int p3] 7) [] (mk x y) ((f_X11_isLinked p1 p2 p3 y)) := by
  unfold f_X11_isLinked
  refine mS_steps (pc' := 0) (ls' := [.ref 279, .int p1, .int p2, .int p3, mU, mU, mU]) (st' := []) (mem' := (mk x y)) 0 rfl ?_
  refine mS_steps (pc' := 3) (ls' := [.ref 279, .int p1, .int p2, .int p3, .int (0 : Int32), mU, mU]) (st' := []) (mem' := (mk x y)) 2 rfl ?_
  refine f_X11_isLinked_L3_snd p1 p2 p3 y x mF (0 : Int32)
def f_X11_in (p0 : Int32) (p1 : Int32) (p2 : Int32) : Int32 := (if p0 < p1 then (0 : Int32) else (if p2 < p0 then (0 : Int32) else (1 : Int32)))
set_option maxRecDepth 20000 in
set_option maxHeartbeats 2000000 in
theorem f_X11_in_snd {fm : Value} {L : Nat} {xs : Nat → Int32} (p0 : Int32) (p1 : Int32) (p2 : Int32) (mem : mM) : mS fm L xs (fun r : Int32 => (.int r, mem)) pg_X11_in 0 (m_entry [.int p0, .int p1, .int p2] 3) [] mem (some (f_X11_in p0 p1 p2)) := by
  unfold f_X11_in
  refine mS_steps (pc' := 0) (ls' := [.int p0, .int p1, .int p2]) (st' := []) (mem' := mem) 0 rfl ?_
  refine mS_steps (pc' := 2) (ls' := [.int p0, .int p1, .int p2]) (st' := [.int p1, .int p0]) (mem' := mem) 2 rfl ?_
  refine mS_ic2T rfl (fun _ => ?_) (fun _ => ?_)
  · refine mS_steps (pc' := 15) (ls' := [.int p0, .int p1, .int p2]) (st' := [.int (0 : Int32)]) (mem' := mem) 1 rfl ?_
    exact mS_reti ⟨_, _, _, _, _, rfl, (by decide)⟩ rfl
  · refine mS_steps (pc' := 7) (ls' := [.int p0, .int p1, .int p2]) (st' := [.int p2, .int p0]) (mem' := mem) 2 rfl ?_
    refine mS_ic4T rfl (fun _ => ?_) (fun _ => ?_)
    · refine mS_steps (pc' := 15) (ls' := [.int p0, .int p1, .int p2]) (st' := [.int (0 : Int32)]) (mem' := mem) 1 rfl ?_
      exact mS_reti ⟨_, _, _, _, _, rfl, (by decide)⟩ rfl
    · refine mS_steps (pc' := 15) (ls' := [.int p0, .int p1, .int p2]) (st' := [.int (1 : Int32)]) (mem' := mem) 2 rfl ?_
      exact mS_reti ⟨_, _, _, _, _, rfl, (by decide)⟩ rfl
def f_X11_meansLink (p1 : Int32) (y : mY) : Option mY := ((f_X11_known (p1 + (1 : Int32)) y).bind fun q1 => ((f_X11_known (p1 + (2 : Int32)) q1.2).bind fun q2 => (m_jn (fun y4 => (if m_in (p1 + (3 : Int32)) 403 = true then (m_jn (fun y6 => (if m_in ((8 : Int32) + (y6.1 288 4)) 72 = true then (m_let (m_ys y6 288 ((8 : Int32) + (y6.1 288 4)).toNatClampNeg q1.1) fun y7 => (if m_in ((24 : Int32) + (y6.1 288 4)) 72 = true then (m_let (m_ys y7 288 ((24 : Int32) + (y6.1 288 4)).toNatClampNeg q2.1) fun y8 => (if m_in ((40 : Int32) + (y6.1 288 4)) 72 = true then (m_let (m_ys y8 288 ((40 : Int32) + (y6.1 288 4)).toNatClampNeg (y4.1 284 (p1 + (3 : Int32)).toNatClampNeg)) fun y9 => (m_let (m_ys y9 288 1 ((y9.1 288 1) ||| ((1 : Int32) <<< ((y6.1 288 4) &&& 31)))) fun y10 => (m_let (m_ys y10 288 4 ((y10.1 288 4) + (1 : Int32))) fun y11 => (some y11)))) else none)) else none)) else none)) (fun j5 => if (f_X11_in (y4.1 284 (p1 + (3 : Int32)).toNatClampNeg) (1 : Int32) (99 : Int32)) = 0 then ((f_X11_wrong (5 : Int32) (p1 + (3 : Int32)) y4).bind fun q12 => (j5 q12)) else (j5 y4))) else none)) (fun j3 => if q1.1 < 0 then (j3 q2.2) else (if q2.1 < 0 then (j3 q2.2) else (if q1.1 = q2.1 then ((f_X11_wrong (3 : Int32) (p1 + (2 : Int32)) q2.2).bind fun q13 => (j3 q13)) else ((f_X11_isLinked q1.1 q2.1 p1 q2.2).bind fun q14 => (if q14 = 0 then (j3 q2.2) else ((f_X11_wrong (3 : Int32) (p1 + (2 : Int32)) q2.2).bind fun q15 => (j3 q15))))))))))
set_option maxRecDepth 20000 in
set_option maxHeartbeats 2000000 in
theorem f_X11_meansLink_snd {fm : Value} {L : Nat} {xs : Nat → Int32} (p1 : Int32) (y : mY) (x : mX) : mS fm L xs (fun r : mY => (mU, mk x r)) pg_X11_meansLink 0 (m_entry [.ref 279, .int p1] 6) [] (mk x y) ((f_X11_meansLink p1 y)) := by
  unfold f_X11_meansLink
  refine mS_steps (pc' := 0) (ls' := [.ref 279, .int p1, mU, mU, mU, mU]) (st' := []) (mem' := (mk x y)) 0 rfl ?_
  refine mS_steps (pc' := 4) (ls' := [.ref 279, .int p1, mU, mU, mU, mU]) (st' := [.int (p1 + (1 : Int32)), .ref 279]) (mem' := (mk x y)) 4 rfl ?_
  refine mS_bind (fun q1 hq1 => mS_call 81 2 [.ref 279, .int (p1 + (1 : Int32))] [] rfl rfl rfl ⟨_, _, _, rfl, rfl⟩ (Nat.le_of_ble_eq_true rfl) (Nat.le_of_ble_eq_true rfl) hq1 (f_X11_known_snd (p1 + (1 : Int32)) y x) ?_)
  refine mS_steps (pc' := 12) (ls' := [.ref 279, .int p1, .int q1.1, mU, mU, mU]) (st' := [.int (p1 + (2 : Int32)), .ref 279]) (mem' := (mk x q1.2)) 5 rfl ?_
  refine mS_bind (fun q2 hq2 => mS_call 81 2 [.ref 279, .int (p1 + (2 : Int32))] [] rfl rfl rfl ⟨_, _, _, rfl, rfl⟩ (Nat.le_of_ble_eq_true rfl) (Nat.le_of_ble_eq_true rfl) hq2 (f_X11_known_snd (p1 + (2 : Int32)) q1.2 x) ?_)
  refine mS_steps (pc' := 17) (ls' := [.ref 279, .int p1, .int q1.1, .int q2.1, mU, mU]) (st' := [.int q1.1]) (mem' := (mk x q2.2)) 2 rfl ?_
  refine mS_jn (fun j => ∀ z : mY, mS fm L xs (fun r : mY => (mU, mk x r)) pg_X11_meansLink 47 [.ref 279, .int p1, .int q1.1, .int q2.1, mU, mU] [] (mk x z) (j z)) ?_ ?_
  · intro z
    revert z; intro y4
    refine mS_steps (pc' := 54) (ls' := [.ref 279, .int p1, .int q1.1, .int q2.1, mU, mU]) (st' := [.int (p1 + (3 : Int32)), .ref 284]) (mem' := (mk x y4)) 5 rfl ?_
    refine mS_ald (b := 0) (n := 403) (z := (y4.1 284 (p1 + (3 : Int32)).toNatClampNeg)) rfl (by decide) rfl (by decide) rfl (fun _ => ?_)
    refine mS_steps (pc' := 62) (ls' := [.ref 279, .int p1, .int q1.1, .int q2.1, .int (y4.1 284 (p1 + (3 : Int32)).toNatClampNeg), mU]) (st' := [.int (99 : Int32), .int (1 : Int32), .int (y4.1 284 (p1 + (3 : Int32)).toNatClampNeg)]) (mem' := (mk x y4)) 4 rfl ?_
    refine mS_call (q := (f_X11_in (y4.1 284 (p1 + (3 : Int32)).toNatClampNeg) (1 : Int32) (99 : Int32))) 83 3 [.int (y4.1 284 (p1 + (3 : Int32)).toNatClampNeg), .int (1 : Int32), .int (99 : Int32)] [] rfl rfl rfl ⟨_, _, _, rfl, rfl⟩ (Nat.le_of_ble_eq_true rfl) (Nat.le_of_ble_eq_true rfl) rfl (f_X11_in_snd (y4.1 284 (p1 + (3 : Int32)).toNatClampNeg) (1 : Int32) (99 : Int32) (mk x y4)) ?_
    refine mS_steps (pc' := 65) (ls' := [.ref 279, .int p1, .int q1.1, .int q2.1, .int (y4.1 284 (p1 + (3 : Int32)).toNatClampNeg), mU]) (st' := [.int (f_X11_in (y4.1 284 (p1 + (3 : Int32)).toNatClampNeg) (1 : Int32) (99 : Int32))]) (mem' := (mk x y4)) 0 rfl ?_
    refine mS_jn (fun j => ∀ z : mY, mS fm L xs (fun r : mY => (mU, mk x r)) pg_X11_meansLink 76 [.ref 279, mU, .int q1.1, .int q2.1, .int (y4.1 284 (p1 + (3 : Int32)).toNatClampNeg), mU] [] (mk x z) (j z)) ?_ ?_
    · intro z
      revert z; intro y6
      refine mS_steps (pc' := 81) (ls' := [.ref 279, mU, .int q1.1, .int q2.1, .int (y4.1 284 (p1 + (3 : Int32)).toNatClampNeg), mU]) (st' := [.int (4 : Int32), .ref 288]) (mem' := (mk x y6)) 3 rfl ?_
      refine mS_aldc (b := 0) (n := 72) (c := 4) (z := (y6.1 288 4)) rfl (by decide) rfl (by decide) (by decide) (by decide) rfl ?_
      refine mS_steps (pc' := 94) (ls' := [.ref 279, mU, .int q1.1, .int q2.1, .int (y4.1 284 (p1 + (3 : Int32)).toNatClampNeg), .int (y6.1 288 4)]) (st' := [.int q1.1, .int ((8 : Int32) + (y6.1 288 4)), .ref 288]) (mem' := (mk x y6)) 7 rfl ?_
      refine mS_ast0y (n := 72) rfl rfl (by decide) (fun _ => ?_)
      refine mS_lety (fun y7 => ?_)
      refine mS_steps (pc' := 105) (ls' := [.ref 279, mU, .int q1.1, .int q2.1, .int (y4.1 284 (p1 + (3 : Int32)).toNatClampNeg), .int (y6.1 288 4)]) (st' := [.int q2.1, .int ((24 : Int32) + (y6.1 288 4)), .ref 288]) (mem' := (mk x y7)) 6 rfl ?_
      refine mS_ast0y (n := 72) rfl rfl (by decide) (fun _ => ?_)
      refine mS_lety (fun y8 => ?_)
      refine mS_steps (pc' := 117) (ls' := [.ref 279, mU, .int q1.1, .int q2.1, .int (y4.1 284 (p1 + (3 : Int32)).toNatClampNeg), .int (y6.1 288 4)]) (st' := [.int (y4.1 284 (p1 + (3 : Int32)).toNatClampNeg), .int ((40 : Int32) + (y6.1 288 4)), .ref 288]) (mem' := (mk x y8)) 6 rfl ?_
      refine mS_ast0y (n := 72) rfl rfl (by decide) (fun _ => ?_)
      refine mS_lety (fun y9 => ?_)
      refine mS_steps (pc' := 124) (ls' := [.ref 279, mU, .int q1.1, .int q2.1, .int (y4.1 284 (p1 + (3 : Int32)).toNatClampNeg), .int (y6.1 288 4)]) (st' := [.int (1 : Int32), .ref 288, .int (1 : Int32), .ref 288]) (mem' := (mk x y9)) 4 rfl ?_
      refine mS_aldc (b := 0) (n := 72) (c := 1) (z := (y9.1 288 1)) rfl (by decide) rfl (by decide) (by decide) (by decide) rfl ?_
      refine mS_steps (pc' := 130) (ls' := [.ref 279, mU, .int q1.1, .int q2.1, .int (y4.1 284 (p1 + (3 : Int32)).toNatClampNeg), .int (y6.1 288 4)]) (st' := [.int ((y9.1 288 1) ||| ((1 : Int32) <<< ((y6.1 288 4) &&& 31))), .int (1 : Int32), .ref 288]) (mem' := (mk x y9)) 4 rfl ?_
      refine mS_ast0yc (n := 72) (c := 1) rfl rfl (by decide) (by decide) (by decide) ?_
      refine mS_lety (fun y10 => ?_)
      refine mS_steps (pc' := 137) (ls' := [.ref 279, mU, .int q1.1, .int q2.1, .int (y4.1 284 (p1 + (3 : Int32)).toNatClampNeg), .int (y6.1 288 4)]) (st' := [.int (4 : Int32), .ref 288, .int (4 : Int32), .ref 288]) (mem' := (mk x y10)) 4 rfl ?_
      refine mS_aldc (b := 0) (n := 72) (c := 4) (z := (y10.1 288 4)) rfl (by decide) rfl (by decide) (by decide) (by decide) rfl ?_
      refine mS_steps (pc' := 140) (ls' := [.ref 279, mU, .int q1.1, .int q2.1, .int (y4.1 284 (p1 + (3 : Int32)).toNatClampNeg), .int (y6.1 288 4)]) (st' := [.int ((y10.1 288 4) + (1 : Int32)), .int (4 : Int32), .ref 288]) (mem' := (mk x y10)) 2 rfl ?_
      refine mS_ast0yc (n := 72) (c := 4) rfl rfl (by decide) (by decide) (by decide) ?_
      refine mS_lety (fun y11 => ?_)
      exact mS_retv ⟨_, _, _, _, _, rfl⟩ rfl
    intro j5 hj5
    refine mS_if1 rfl (fun _ => ?_) (fun _ => ?_)
    · refine mS_steps (pc' := 73) (ls' := [.ref 279, .int p1, .int q1.1, .int q2.1, .int (y4.1 284 (p1 + (3 : Int32)).toNatClampNeg), mU]) (st' := [.int (p1 + (3 : Int32)), .int (5 : Int32), .ref 279]) (mem' := (mk x y4)) 5 rfl ?_
      refine mS_bind (fun q12 hq12 => mS_call 79 3 [.ref 279, .int (5 : Int32), .int (p1 + (3 : Int32))] [] rfl rfl rfl ⟨_, _, _, rfl, rfl⟩ (Nat.le_of_ble_eq_true rfl) (Nat.le_of_ble_eq_true rfl) hq12 (f_X11_wrong_snd (5 : Int32) (p1 + (3 : Int32)) y4 x) ?_)
      refine mS_steps (pc' := 76) (ls' := [.ref 279, .int p1, .int q1.1, .int q2.1, .int (y4.1 284 (p1 + (3 : Int32)).toNatClampNeg), mU]) (st' := []) (mem' := (mk x q12)) 0 rfl ?_
      refine mS_forget [.ref 279, mU, .int q1.1, .int q2.1, .int (y4.1 284 (p1 + (3 : Int32)).toNatClampNeg), mU] ⟨Or.inr rfl, Or.inl rfl, Or.inr rfl, Or.inr rfl, Or.inr rfl, Or.inl rfl, trivial⟩ ?_
      exact hj5 q12
    · refine mS_forget [.ref 279, mU, .int q1.1, .int q2.1, .int (y4.1 284 (p1 + (3 : Int32)).toNatClampNeg), mU] ⟨Or.inr rfl, Or.inl rfl, Or.inr rfl, Or.inr rfl, Or.inr rfl, Or.inl rfl, trivial⟩ ?_
      exact hj5 y4
  intro j3 hj3
  refine mS_if2 rfl (fun _ => ?_) (fun _ => ?_)
  · exact hj3 q2.2
  · refine mS_steps (pc' := 21) (ls' := [.ref 279, .int p1, .int q1.1, .int q2.1, mU, mU]) (st' := [.int q2.1]) (mem' := (mk x q2.2)) 1 rfl ?_
    refine mS_if2 rfl (fun _ => ?_) (fun _ => ?_)
    · exact hj3 q2.2
    · refine mS_steps (pc' := 26) (ls' := [.ref 279, .int p1, .int q1.1, .int q2.1, mU, mU]) (st' := [.int q2.1, .int q1.1]) (mem' := (mk x q2.2)) 2 rfl ?_
      refine mS_ic0 rfl (fun _ => ?_) (fun _ => ?_)
      · refine mS_steps (pc' := 44) (ls' := [.ref 279, .int p1, .int q1.1, .int q2.1, mU, mU]) (st' := [.int (p1 + (2 : Int32)), .int (3 : Int32), .ref 279]) (mem' := (mk x q2.2)) 5 rfl ?_
        refine mS_bind (fun q13 hq13 => mS_call 79 3 [.ref 279, .int (3 : Int32), .int (p1 + (2 : Int32))] [] rfl rfl rfl ⟨_, _, _, rfl, rfl⟩ (Nat.le_of_ble_eq_true rfl) (Nat.le_of_ble_eq_true rfl) hq13 (f_X11_wrong_snd (3 : Int32) (p1 + (2 : Int32)) q2.2 x) ?_)
        refine mS_steps (pc' := 47) (ls' := [.ref 279, .int p1, .int q1.1, .int q2.1, mU, mU]) (st' := []) (mem' := (mk x q13)) 0 rfl ?_
        exact hj3 q13
      · refine mS_steps (pc' := 33) (ls' := [.ref 279, .int p1, .int q1.1, .int q2.1, mU, mU]) (st' := [.int p1, .int q2.1, .int q1.1, .ref 279]) (mem' := (mk x q2.2)) 4 rfl ?_
        refine mS_bind (fun q14 hq14 => mS_call 82 4 [.ref 279, .int q1.1, .int q2.1, .int p1] [] rfl rfl rfl ⟨_, _, _, rfl, rfl⟩ (Nat.le_of_ble_eq_true rfl) (Nat.le_of_ble_eq_true rfl) hq14 (f_X11_isLinked_snd q1.1 q2.1 p1 q2.2 x) ?_)
        refine mS_steps (pc' := 36) (ls' := [.ref 279, .int p1, .int q1.1, .int q2.1, mU, mU]) (st' := [.int q14]) (mem' := (mk x q2.2)) 0 rfl ?_
        refine mS_if0 rfl (fun _ => ?_) (fun _ => ?_)
        · exact hj3 q2.2
        · refine mS_steps (pc' := 44) (ls' := [.ref 279, .int p1, .int q1.1, .int q2.1, mU, mU]) (st' := [.int (p1 + (2 : Int32)), .int (3 : Int32), .ref 279]) (mem' := (mk x q2.2)) 5 rfl ?_
          refine mS_bind (fun q15 hq15 => mS_call 79 3 [.ref 279, .int (3 : Int32), .int (p1 + (2 : Int32))] [] rfl rfl rfl ⟨_, _, _, rfl, rfl⟩ (Nat.le_of_ble_eq_true rfl) (Nat.le_of_ble_eq_true rfl) hq15 (f_X11_wrong_snd (3 : Int32) (p1 + (2 : Int32)) q2.2 x) ?_)
          refine mS_steps (pc' := 47) (ls' := [.ref 279, .int p1, .int q1.1, .int q2.1, mU, mU]) (st' := []) (mem' := (mk x q15)) 0 rfl ?_
          exact hj3 q15
def f_X11_meansDown_L43 (a2 : Int32) (a3 : Int32) : Nat → Int32 → mY → (mY → Option mY) → Option mY
  | 0, _, _, _ => none
  | n + 1, a4, y, k131 => (if (y.1 288 4) ≤ a4 then (k131 y) else (if m_in ((8 : Int32) + a4) 72 = true then (m_jn (fun _ => (if m_in ((8 : Int32) + a4) 72 = true then (if (y.1 288 ((8 : Int32) + a4).toNatClampNeg) = a3 then (if m_in ((24 : Int32) + a4) 72 = true then (if (y.1 288 ((24 : Int32) + a4).toNatClampNeg) = a2 then (m_let (m_ys y 288 1 ((y.1 288 1) &&& (((1 : Int32) <<< (a4 &&& 31)) ^^^ (-1 : Int32)))) fun y4 => (f_X11_meansDown_L43 a2 a3 n (a4 + (1 : Int32)) y4 k131)) else (f_X11_meansDown_L43 a2 a3 n (a4 + (1 : Int32)) y k131)) else none) else (f_X11_meansDown_L43 a2 a3 n (a4 + (1 : Int32)) y k131)) else none)) (fun j3 => if (y.1 288 ((8 : Int32) + a4).toNatClampNeg) = a2 then (if m_in ((24 : Int32) + a4) 72 = true then (if (y.1 288 ((24 : Int32) + a4).toNatClampNeg) = a3 then (m_let (m_ys y 288 1 ((y.1 288 1) &&& (((1 : Int32) <<< (a4 &&& 31)) ^^^ (-1 : Int32)))) fun y5 => (f_X11_meansDown_L43 a2 a3 n (a4 + (1 : Int32)) y5 k131)) else (j3 ())) else none) else (j3 ()))) else none))
def f_X11_meansDown_L2 : Nat → Int32 → mY → Option mY
  | 0, _, _ => none
  | n + 1, a1, y => (if (y.1 279 10) ≤ a1 then (some y) else (if m_in a1 403 = true then (if (y.1 282 a1.toNatClampNeg) = (24 : Int32) then ((f_X11_named (a1 + (1 : Int32)) y).bind fun q1 => ((f_X11_named (a1 + (2 : Int32)) y).bind fun q2 => (f_X11_meansDown_L43 q1 q2 mF (0 : Int32) y (fun y6 => (f_X11_meansDown_L2 n (a1 + (1 : Int32)) y6))))) else (f_X11_meansDown_L2 n (a1 + (1 : Int32)) y)) else none))
def f_X11_meansDown (y : mY) : Option mY := (f_X11_meansDown_L2 mF (0 : Int32) y)
set_option maxRecDepth 20000 in
set_option maxHeartbeats 2000000 in
theorem f_X11_meansDown_L43_snd {fm : Value} {L : Nat} {xs : Nat → Int32} (a1 : Int32) (a2 : Int32) (a3 : Int32) (x : mX) (k131 : mY → Option mY) (hk131 : ∀ (z0 : mY), mS fm L xs (fun r : mY => (mU, mk x r)) pg_X11_meansDown 131 [.ref 279, .int a1, mU, mU, mU] [] (mk x z0) (k131 z0)) : ∀ (n : Nat) (a4 : Int32) (y : mY), mS fm L xs (fun r : mY => (mU, mk x r)) pg_X11_meansDown 43 [.ref 279, .int a1, .int a2, .int a3, .int a4] [] (mk x y) (f_X11_meansDown_L43 a2 a3 n a4 y k131) := by
  intro n
  induction n with
  | zero => intro a4 y; exact mS_none
  | succ n ih =>
    intro a4 y
    rw [f_X11_meansDown_L43]
    refine mS_steps (pc' := 50) (ls' := [.ref 279, .int a1, .int a2, .int a3, .int a4]) (st' := [.int (4 : Int32), .ref 288, .int a4]) (mem' := (mk x y)) 4 rfl ?_
    refine mS_aldc (b := 0) (n := 72) (c := 4) (z := (y.1 288 4)) rfl (by decide) rfl (by decide) (by decide) (by decide) rfl ?_
    refine mS_ic3 rfl (fun _ => ?_) (fun _ => ?_)
    · refine mS_forget [.ref 279, .int a1, mU, mU, mU] ⟨Or.inr rfl, Or.inr rfl, Or.inl rfl, Or.inl rfl, Or.inl rfl, trivial⟩ ?_
      exact hk131 y
    · refine mS_steps (pc' := 63) (ls' := [.ref 279, .int a1, .int a2, .int a3, .int a4]) (st' := [.int ((8 : Int32) + a4), .ref 288]) (mem' := (mk x y)) 5 rfl ?_
      refine mS_ald (b := 0) (n := 72) (z := (y.1 288 ((8 : Int32) + a4).toNatClampNeg)) rfl (by decide) rfl (by decide) rfl (fun _ => ?_)
      refine mS_steps (pc' := 65) (ls' := [.ref 279, .int a1, .int a2, .int a3, .int a4]) (st' := [.int a2, .int (y.1 288 ((8 : Int32) + a4).toNatClampNeg)]) (mem' := (mk x y)) 1 rfl ?_
      refine mS_jn (fun j => ∀ z : Unit, mS fm L xs (fun r : mY => (mU, mk x r)) pg_X11_meansDown 82 [.ref 279, .int a1, .int a2, .int a3, .int a4] [] (mk x y) (j z)) ?_ ?_
      · intro z
        refine mS_steps (pc' := 91) (ls' := [.ref 279, .int a1, .int a2, .int a3, .int a4]) (st' := [.int ((8 : Int32) + a4), .ref 288]) (mem' := (mk x y)) 5 rfl ?_
        refine mS_ald (b := 0) (n := 72) (z := (y.1 288 ((8 : Int32) + a4).toNatClampNeg)) rfl (by decide) rfl (by decide) rfl (fun _ => ?_)
        refine mS_steps (pc' := 93) (ls' := [.ref 279, .int a1, .int a2, .int a3, .int a4]) (st' := [.int a3, .int (y.1 288 ((8 : Int32) + a4).toNatClampNeg)]) (mem' := (mk x y)) 1 rfl ?_
        refine mS_ic1 rfl (fun _ => ?_) (fun _ => ?_)
        · refine mS_steps (pc' := 105) (ls' := [.ref 279, .int a1, .int a2, .int a3, .int a4]) (st' := [.int ((24 : Int32) + a4), .ref 288]) (mem' := (mk x y)) 5 rfl ?_
          refine mS_ald (b := 0) (n := 72) (z := (y.1 288 ((24 : Int32) + a4).toNatClampNeg)) rfl (by decide) rfl (by decide) rfl (fun _ => ?_)
          refine mS_steps (pc' := 107) (ls' := [.ref 279, .int a1, .int a2, .int a3, .int a4]) (st' := [.int a2, .int (y.1 288 ((24 : Int32) + a4).toNatClampNeg)]) (mem' := (mk x y)) 1 rfl ?_
          refine mS_ic1 rfl (fun _ => ?_) (fun _ => ?_)
          · refine mS_steps (pc' := 116) (ls' := [.ref 279, .int a1, .int a2, .int a3, .int a4]) (st' := [.int (1 : Int32), .ref 288, .int (1 : Int32), .ref 288]) (mem' := (mk x y)) 4 rfl ?_
            refine mS_aldc (b := 0) (n := 72) (c := 1) (z := (y.1 288 1)) rfl (by decide) rfl (by decide) (by decide) (by decide) rfl ?_
            refine mS_steps (pc' := 124) (ls' := [.ref 279, .int a1, .int a2, .int a3, .int a4]) (st' := [.int ((y.1 288 1) &&& (((1 : Int32) <<< (a4 &&& 31)) ^^^ (-1 : Int32))), .int (1 : Int32), .ref 288]) (mem' := (mk x y)) 6 rfl ?_
            refine mS_ast0yc (n := 72) (c := 1) rfl rfl (by decide) (by decide) (by decide) ?_
            refine mS_lety (fun y4 => ?_)
            refine mS_steps (pc' := 43) (ls' := [.ref 279, .int a1, .int a2, .int a3, .int (a4 + (1 : Int32))]) (st' := []) (mem' := (mk x y4)) 2 rfl ?_
            exact ih (a4 + (1 : Int32)) y4
          · refine mS_steps (pc' := 43) (ls' := [.ref 279, .int a1, .int a2, .int a3, .int (a4 + (1 : Int32))]) (st' := []) (mem' := (mk x y)) 2 rfl ?_
            exact ih (a4 + (1 : Int32)) y
        · refine mS_steps (pc' := 43) (ls' := [.ref 279, .int a1, .int a2, .int a3, .int (a4 + (1 : Int32))]) (st' := []) (mem' := (mk x y)) 2 rfl ?_
          exact ih (a4 + (1 : Int32)) y
      intro j3 hj3
      refine mS_ic1 rfl (fun _ => ?_) (fun _ => ?_)
      · refine mS_steps (pc' := 77) (ls' := [.ref 279, .int a1, .int a2, .int a3, .int a4]) (st' := [.int ((24 : Int32) + a4), .ref 288]) (mem' := (mk x y)) 5 rfl ?_
        refine mS_ald (b := 0) (n := 72) (z := (y.1 288 ((24 : Int32) + a4).toNatClampNeg)) rfl (by decide) rfl (by decide) rfl (fun _ => ?_)
        refine mS_steps (pc' := 79) (ls' := [.ref 279, .int a1, .int a2, .int a3, .int a4]) (st' := [.int a3, .int (y.1 288 ((24 : Int32) + a4).toNatClampNeg)]) (mem' := (mk x y)) 1 rfl ?_
        refine mS_ic0 rfl (fun _ => ?_) (fun _ => ?_)
        · refine mS_steps (pc' := 116) (ls' := [.ref 279, .int a1, .int a2, .int a3, .int a4]) (st' := [.int (1 : Int32), .ref 288, .int (1 : Int32), .ref 288]) (mem' := (mk x y)) 4 rfl ?_
          refine mS_aldc (b := 0) (n := 72) (c := 1) (z := (y.1 288 1)) rfl (by decide) rfl (by decide) (by decide) (by decide) rfl ?_
          refine mS_steps (pc' := 124) (ls' := [.ref 279, .int a1, .int a2, .int a3, .int a4]) (st' := [.int ((y.1 288 1) &&& (((1 : Int32) <<< (a4 &&& 31)) ^^^ (-1 : Int32))), .int (1 : Int32), .ref 288]) (mem' := (mk x y)) 6 rfl ?_
          refine mS_ast0yc (n := 72) (c := 1) rfl rfl (by decide) (by decide) (by decide) ?_
          refine mS_lety (fun y5 => ?_)
          refine mS_steps (pc' := 43) (ls' := [.ref 279, .int a1, .int a2, .int a3, .int (a4 + (1 : Int32))]) (st' := []) (mem' := (mk x y5)) 2 rfl ?_
          exact ih (a4 + (1 : Int32)) y5
        · exact hj3 ()
      · exact hj3 ()
set_option maxRecDepth 20000 in
set_option maxHeartbeats 2000000 in
theorem f_X11_meansDown_L2_snd {fm : Value} {L : Nat} {xs : Nat → Int32} (x : mX) : ∀ (n : Nat) (a1 : Int32) (y : mY), mS fm L xs (fun r : mY => (mU, mk x r)) pg_X11_meansDown 2 [.ref 279, .int a1, mU, mU, mU] [] (mk x y) (f_X11_meansDown_L2 n a1 y) := by
  intro n
  induction n with
  | zero => intro a1 y; exact mS_none
  | succ n ih =>
    intro a1 y
    rw [f_X11_meansDown_L2]
    refine mS_steps (pc' := 7) (ls' := [.ref 279, .int a1, mU, mU, mU]) (st' := [.int (y.1 279 10), .int a1]) (mem' := (mk x y)) 3 rfl ?_
    refine mS_ic3 rfl (fun _ => ?_) (fun _ => ?_)
    · exact mS_retv ⟨_, _, _, _, _, rfl⟩ rfl
    · refine mS_steps (pc' := 15) (ls' := [.ref 279, .int a1, mU, mU, mU]) (st' := [.int a1, .ref 282]) (mem' := (mk x y)) 3 rfl ?_
      refine mS_ald (b := 0) (n := 403) (z := (y.1 282 a1.toNatClampNeg)) rfl (by decide) rfl (by decide) rfl (fun _ => ?_)
      refine mS_steps (pc' := 18) (ls' := [.ref 279, .int a1, mU, mU, mU]) (st' := [.int (24 : Int32), .int (y.1 282 a1.toNatClampNeg)]) (mem' := (mk x y)) 1 rfl ?_
      refine mS_ic0 rfl (fun _ => ?_) (fun _ => ?_)
      · refine mS_steps (pc' := 28) (ls' := [.ref 279, .int a1, mU, mU, mU]) (st' := [.int (a1 + (1 : Int32)), .ref 279]) (mem' := (mk x y)) 4 rfl ?_
        refine mS_bind (fun q1 hq1 => mS_call 80 2 [.ref 279, .int (a1 + (1 : Int32))] [] rfl rfl rfl ⟨_, _, _, rfl, rfl⟩ (Nat.le_of_ble_eq_true rfl) (Nat.le_of_ble_eq_true rfl) hq1 (f_X11_named_snd (a1 + (1 : Int32)) y x) ?_)
        refine mS_steps (pc' := 36) (ls' := [.ref 279, .int a1, .int q1, mU, mU]) (st' := [.int (a1 + (2 : Int32)), .ref 279]) (mem' := (mk x y)) 5 rfl ?_
        refine mS_bind (fun q2 hq2 => mS_call 80 2 [.ref 279, .int (a1 + (2 : Int32))] [] rfl rfl rfl ⟨_, _, _, rfl, rfl⟩ (Nat.le_of_ble_eq_true rfl) (Nat.le_of_ble_eq_true rfl) hq2 (f_X11_named_snd (a1 + (2 : Int32)) y x) ?_)
        refine mS_steps (pc' := 43) (ls' := [.ref 279, .int a1, .int q1, .int q2, .int (0 : Int32)]) (st' := []) (mem' := (mk x y)) 3 rfl ?_
        refine f_X11_meansDown_L43_snd a1 q1 q2 x _ ?_ mF (0 : Int32) y
        · intro y6
          refine mS_steps (pc' := 2) (ls' := [.ref 279, .int (a1 + (1 : Int32)), mU, mU, mU]) (st' := []) (mem' := (mk x y6)) 2 rfl ?_
          exact ih (a1 + (1 : Int32)) y6
      · refine mS_steps (pc' := 2) (ls' := [.ref 279, .int (a1 + (1 : Int32)), mU, mU, mU]) (st' := []) (mem' := (mk x y)) 3 rfl ?_
        exact ih (a1 + (1 : Int32)) y
set_option maxRecDepth 20000 in
set_option maxHeartbeats 2000000 in
theorem f_X11_meansDown_snd {fm : Value} {L : Nat} {xs : Nat → Int32} (y : mY) (x : mX) : mS fm L xs (fun r : mY => (mU, mk x r)) pg_X11_meansDown 0 (m_entry [.ref 279] 5) [] (mk x y) ((f_X11_meansDown y)) := by
  unfold f_X11_meansDown
  refine mS_steps (pc' := 0) (ls' := [.ref 279, mU, mU, mU, mU]) (st' := []) (mem' := (mk x y)) 0 rfl ?_
  refine mS_steps (pc' := 2) (ls' := [.ref 279, .int (0 : Int32), mU, mU, mU]) (st' := []) (mem' := (mk x y)) 2 rfl ?_
  refine f_X11_meansDown_L2_snd x mF (0 : Int32) y
def f_X11_means_L2 : Nat → Int32 → mY → (mY → Option mY) → Option mY
  | 0, _, _, _ => none
  | n + 1, a1, y, k21 => (if (72 : Int32) ≤ a1 then (k21 y) else (if m_in a1 72 = true then (m_let (m_ys y 288 a1.toNatClampNeg (0 : Int32)) fun y1 => (f_X11_means_L2 n (a1 + (1 : Int32)) y1 k21)) else none))
def f_X11_means_L68 (a1 : Int32) (a2 : Int32) : Nat → Int32 → mY → (mY → Option mY) → Option mY
  | 0, _, _, _ => none
  | n + 1, a4, y, k105 => (if a1 ≤ a4 then (k105 y) else (if m_in a4 8 = true then (if m_in a1 8 = true then (if (lg_cmp (y.2 287 a4.toNatClampNeg) (y.2 287 a1.toNatClampNeg)) = 0 then ((f_X11_wrong (3 : Int32) (a2 + (1 : Int32)) y).bind fun q6 => (f_X11_means_L68 a1 a2 n (a4 + (1 : Int32)) q6 k105)) else (f_X11_means_L68 a1 a2 n (a4 + (1 : Int32)) y k105)) else none) else none))
def f_X11_means_L44 : Nat → Int32 → Int32 → mY → Option mY
  | 0, _, _, _ => none
  | n + 1, a1, a2, y => (if (y.1 279 10) ≤ a2 then ((f_X11_meansDown y).bind fun q5 => (some q5)) else (if m_in a2 403 = true then (if (y.1 282 a2.toNatClampNeg) = (20 : Int32) then (f_X11_means_L68 a1 a2 mF (0 : Int32) y (fun y7 => (f_X11_means_L44 n (a1 + (1 : Int32)) (a2 + (1 : Int32)) y7))) else (if (y.1 282 a2.toNatClampNeg) = (22 : Int32) then ((f_X11_known (a2 + (1 : Int32)) y).bind fun q8 => (if q8.1 < 0 then (f_X11_means_L44 n a1 (a2 + (1 : Int32)) q8.2) else (m_let (m_ys q8.2 288 0 ((q8.2.1 288 0) &&& (((1 : Int32) <<< (q8.1 &&& 31)) ^^^ (-1 : Int32)))) fun y9 => (f_X11_means_L44 n a1 (a2 + (1 : Int32)) y9)))) else (if (y.1 282 a2.toNatClampNeg) = (23 : Int32) then ((f_X11_known (a2 + (1 : Int32)) y).bind fun q10 => (m_let (m_ys q10.2 279 21 q10.1) fun y11 => (f_X11_means_L44 n a1 (a2 + (1 : Int32)) y11))) else (if (y.1 282 a2.toNatClampNeg) = (21 : Int32) then ((f_X11_meansLink a2 y).bind fun q12 => (f_X11_means_L44 n a1 (a2 + (1 : Int32)) q12)) else (if (y.1 282 a2.toNatClampNeg) = (24 : Int32) then ((f_X11_known (a2 + (1 : Int32)) y).bind fun q13 => ((f_X11_known (a2 + (2 : Int32)) q13.2).bind fun q14 => (if q13.1 < 0 then (f_X11_means_L44 n a1 (a2 + (1 : Int32)) q14.2) else (if q14.1 < 0 then (f_X11_means_L44 n a1 (a2 + (1 : Int32)) q14.2) else (m_jn (fun _ => ((f_X11_wrong (5 : Int32) (a2 + (2 : Int32)) q14.2).bind fun q16 => (f_X11_means_L44 n a1 (a2 + (1 : Int32)) q16))) (fun j15 => if q13.1 = q14.1 then (j15 ()) else ((f_X11_isLinked q13.1 q14.1 (q14.2.1 279 10) q14.2).bind fun q17 => (if q17 = 0 then (j15 ()) else (f_X11_means_L44 n a1 (a2 + (1 : Int32)) q14.2))))))))) else (f_X11_means_L44 n a1 (a2 + (1 : Int32)) y)))))) else none))
def f_X11_means (y : mY) : Option mY := (f_X11_means_L2 mF (0 : Int32) y (fun y2 => (m_let (m_ys y2 288 0 (((1 : Int32) <<< ((y2.1 279 19) &&& 31)) - (1 : Int32))) fun y3 => (m_let (m_ys y3 279 21 (0 : Int32)) fun y4 => (f_X11_means_L44 mF (0 : Int32) (0 : Int32) y4)))))
set_option maxRecDepth 20000 in
set_option maxHeartbeats 2000000 in
theorem f_X11_means_L2_snd {fm : Value} {L : Nat} {xs : Nat → Int32} (x : mX) (k21 : mY → Option mY) (hk21 : ∀ (z0 : mY), mS fm L xs (fun r : mY => (mU, mk x r)) pg_X11_means 21 [.ref 279, mU, mU, mU, mU, mU] [] (mk x z0) (k21 z0)) : ∀ (n : Nat) (a1 : Int32) (y : mY), mS fm L xs (fun r : mY => (mU, mk x r)) pg_X11_means 2 [.ref 279, .int a1, mU, mU, mU, mU] [] (mk x y) (f_X11_means_L2 n a1 y k21) := by
  intro n
  induction n with
  | zero => intro a1 y; exact mS_none
  | succ n ih =>
    intro a1 y
    rw [f_X11_means_L2]
    refine mS_steps (pc' := 5) (ls' := [.ref 279, .int a1, mU, mU, mU, mU]) (st' := [.int (72 : Int32), .int a1]) (mem' := (mk x y)) 2 rfl ?_
    refine mS_ic3 rfl (fun _ => ?_) (fun _ => ?_)
    · refine mS_forget [.ref 279, mU, mU, mU, mU, mU] ⟨Or.inr rfl, Or.inl rfl, Or.inl rfl, Or.inl rfl, Or.inl rfl, Or.inl rfl, trivial⟩ ?_
      exact hk21 y
    · refine mS_steps (pc' := 14) (ls' := [.ref 279, .int a1, mU, mU, mU, mU]) (st' := [.int (0 : Int32), .int a1, .ref 288]) (mem' := (mk x y)) 4 rfl ?_
      refine mS_ast0y (n := 72) rfl rfl (by decide) (fun _ => ?_)
      refine mS_lety (fun y1 => ?_)
      refine mS_steps (pc' := 2) (ls' := [.ref 279, .int (a1 + (1 : Int32)), mU, mU, mU, mU]) (st' := []) (mem' := (mk x y1)) 2 rfl ?_
      exact ih (a1 + (1 : Int32)) y1
set_option maxRecDepth 20000 in
set_option maxHeartbeats 2000000 in
theorem f_X11_means_L68_snd {fm : Value} {L : Nat} {xs : Nat → Int32} (a1 : Int32) (a2 : Int32) (x : mX) (k105 : mY → Option mY) (hk105 : ∀ (z0 : mY), mS fm L xs (fun r : mY => (mU, mk x r)) pg_X11_means 105 [.ref 279, .int a1, .int a2, mU, mU, mU] [] (mk x z0) (k105 z0)) : ∀ (n : Nat) (a4 : Int32) (y : mY), mS fm L xs (fun r : mY => (mU, mk x r)) pg_X11_means 68 [.ref 279, .int a1, .int a2, mU, .int a4, mU] [] (mk x y) (f_X11_means_L68 a1 a2 n a4 y k105) := by
  intro n
  induction n with
  | zero => intro a4 y; exact mS_none
  | succ n ih =>
    intro a4 y
    rw [f_X11_means_L68]
    refine mS_steps (pc' := 71) (ls' := [.ref 279, .int a1, .int a2, mU, .int a4, mU]) (st' := [.int a1, .int a4]) (mem' := (mk x y)) 2 rfl ?_
    refine mS_ic3 rfl (fun _ => ?_) (fun _ => ?_)
    · refine mS_forget [.ref 279, .int a1, .int a2, mU, mU, mU] ⟨Or.inr rfl, Or.inr rfl, Or.inr rfl, Or.inl rfl, Or.inl rfl, Or.inl rfl, trivial⟩ ?_
      exact hk105 y
    · refine mS_steps (pc' := 80) (ls' := [.ref 279, .int a1, .int a2, mU, .int a4, mU]) (st' := [.int a4, .ref 287]) (mem' := (mk x y)) 3 rfl ?_
      refine mS_lald (b := 1) (n := 8) (z := (y.2 287 a4.toNatClampNeg)) rfl rfl (by decide) rfl (fun _ => ?_)
      refine mS_steps (pc' := 86) (ls' := [.ref 279, .int a1, .int a2, mU, .int a4, mU]) (st' := [.int a1, .ref 287, .long (y.2 287 a4.toNatClampNeg)]) (mem' := (mk x y)) 3 rfl ?_
      refine mS_lald (b := 1) (n := 8) (z := (y.2 287 a1.toNatClampNeg)) rfl rfl (by decide) rfl (fun _ => ?_)
      refine mS_steps (pc' := 88) (ls' := [.ref 279, .int a1, .int a2, mU, .int a4, mU]) (st' := [.int (lg_cmp (y.2 287 a4.toNatClampNeg) (y.2 287 a1.toNatClampNeg))]) (mem' := (mk x y)) 1 rfl ?_
      refine mS_if1 rfl (fun _ => ?_) (fun _ => ?_)
      · refine mS_steps (pc' := 96) (ls' := [.ref 279, .int a1, .int a2, mU, .int a4, mU]) (st' := [.int (a2 + (1 : Int32)), .int (3 : Int32), .ref 279]) (mem' := (mk x y)) 5 rfl ?_
        refine mS_bind (fun q6 hq6 => mS_call 79 3 [.ref 279, .int (3 : Int32), .int (a2 + (1 : Int32))] [] rfl rfl rfl ⟨_, _, _, rfl, rfl⟩ (Nat.le_of_ble_eq_true rfl) (Nat.le_of_ble_eq_true rfl) hq6 (f_X11_wrong_snd (3 : Int32) (a2 + (1 : Int32)) y x) ?_)
        refine mS_steps (pc' := 68) (ls' := [.ref 279, .int a1, .int a2, mU, .int (a4 + (1 : Int32)), mU]) (st' := []) (mem' := (mk x q6)) 2 rfl ?_
        exact ih (a4 + (1 : Int32)) q6
      · refine mS_steps (pc' := 68) (ls' := [.ref 279, .int a1, .int a2, mU, .int (a4 + (1 : Int32)), mU]) (st' := []) (mem' := (mk x y)) 2 rfl ?_
        exact ih (a4 + (1 : Int32)) y
set_option maxRecDepth 20000 in
set_option maxHeartbeats 2000000 in
theorem f_X11_means_L44_snd {fm : Value} {L : Nat} {xs : Nat → Int32} (x : mX) : ∀ (n : Nat) (a1 : Int32) (a2 : Int32) (y : mY), mS fm L xs (fun r : mY => (mU, mk x r)) pg_X11_means 44 [.ref 279, .int a1, .int a2, mU, mU, mU] [] (mk x y) (f_X11_means_L44 n a1 a2 y) := by
  intro n
  induction n with
  | zero => intro a1 a2 y; exact mS_none
  | succ n ih =>
    intro a1 a2 y
    rw [f_X11_means_L44]
    refine mS_steps (pc' := 49) (ls' := [.ref 279, .int a1, .int a2, mU, mU, mU]) (st' := [.int (y.1 279 10), .int a2]) (mem' := (mk x y)) 3 rfl ?_
    refine mS_ic3 rfl (fun _ => ?_) (fun _ => ?_)
    · refine mS_steps (pc' := 254) (ls' := [.ref 279, .int a1, .int a2, mU, mU, mU]) (st' := [.ref 279]) (mem' := (mk x y)) 1 rfl ?_
      refine mS_bind (fun q5 hq5 => mS_call 85 1 [.ref 279] [] rfl rfl rfl ⟨_, _, _, rfl, rfl⟩ (Nat.le_of_ble_eq_true rfl) (Nat.le_of_ble_eq_true rfl) hq5 (f_X11_meansDown_snd  y x) ?_)
      refine mS_steps (pc' := 257) (ls' := [.ref 279, .int a1, .int a2, mU, mU, mU]) (st' := []) (mem' := (mk x q5)) 0 rfl ?_
      exact mS_retv ⟨_, _, _, _, _, rfl⟩ rfl
    · refine mS_steps (pc' := 57) (ls' := [.ref 279, .int a1, .int a2, mU, mU, mU]) (st' := [.int a2, .ref 282]) (mem' := (mk x y)) 3 rfl ?_
      refine mS_ald (b := 0) (n := 403) (z := (y.1 282 a2.toNatClampNeg)) rfl (by decide) rfl (by decide) rfl (fun _ => ?_)
      refine mS_steps (pc' := 62) (ls' := [.ref 279, .int a1, .int a2, .int (y.1 282 a2.toNatClampNeg), mU, mU]) (st' := [.int (20 : Int32), .int (y.1 282 a2.toNatClampNeg)]) (mem' := (mk x y)) 3 rfl ?_
      refine mS_ic1 rfl (fun _ => ?_) (fun _ => ?_)
      · refine mS_steps (pc' := 68) (ls' := [.ref 279, .int a1, .int a2, .int (y.1 282 a2.toNatClampNeg), .int (0 : Int32), mU]) (st' := []) (mem' := (mk x y)) 2 rfl ?_
        refine mS_forget [.ref 279, .int a1, .int a2, mU, .int (0 : Int32), mU] ⟨Or.inr rfl, Or.inr rfl, Or.inr rfl, Or.inl rfl, Or.inr rfl, Or.inl rfl, trivial⟩ ?_
        refine f_X11_means_L68_snd a1 a2 x _ ?_ mF (0 : Int32) y
        · intro y7
          refine mS_steps (pc' := 44) (ls' := [.ref 279, .int (a1 + (1 : Int32)), .int (a2 + (1 : Int32)), mU, mU, mU]) (st' := []) (mem' := (mk x y7)) 4 rfl ?_
          exact ih (a1 + (1 : Int32)) (a2 + (1 : Int32)) y7
      · refine mS_steps (pc' := 114) (ls' := [.ref 279, .int a1, .int a2, .int (y.1 282 a2.toNatClampNeg), mU, mU]) (st' := [.int (22 : Int32), .int (y.1 282 a2.toNatClampNeg)]) (mem' := (mk x y)) 2 rfl ?_
        refine mS_ic1 rfl (fun _ => ?_) (fun _ => ?_)
        · refine mS_steps (pc' := 121) (ls' := [.ref 279, .int a1, .int a2, .int (y.1 282 a2.toNatClampNeg), mU, mU]) (st' := [.int (a2 + (1 : Int32)), .ref 279]) (mem' := (mk x y)) 4 rfl ?_
          refine mS_bind (fun q8 hq8 => mS_call 81 2 [.ref 279, .int (a2 + (1 : Int32))] [] rfl rfl rfl ⟨_, _, _, rfl, rfl⟩ (Nat.le_of_ble_eq_true rfl) (Nat.le_of_ble_eq_true rfl) hq8 (f_X11_known_snd (a2 + (1 : Int32)) y x) ?_)
          refine mS_steps (pc' := 128) (ls' := [.ref 279, .int a1, .int a2, .int (y.1 282 a2.toNatClampNeg), .int q8.1, mU]) (st' := [.int q8.1]) (mem' := (mk x q8.2)) 2 rfl ?_
          refine mS_if2 rfl (fun _ => ?_) (fun _ => ?_)
          · refine mS_steps (pc' := 44) (ls' := [.ref 279, .int a1, .int (a2 + (1 : Int32)), .int (y.1 282 a2.toNatClampNeg), .int q8.1, mU]) (st' := []) (mem' := (mk x q8.2)) 3 rfl ?_
            refine mS_forget [.ref 279, .int a1, .int (a2 + (1 : Int32)), mU, mU, mU] ⟨Or.inr rfl, Or.inr rfl, Or.inr rfl, Or.inl rfl, Or.inl rfl, Or.inl rfl, trivial⟩ ?_
            exact ih a1 (a2 + (1 : Int32)) q8.2
          · refine mS_steps (pc' := 137) (ls' := [.ref 279, .int a1, .int a2, .int (y.1 282 a2.toNatClampNeg), .int q8.1, mU]) (st' := [.int (0 : Int32), .ref 288, .int (0 : Int32), .ref 288]) (mem' := (mk x q8.2)) 4 rfl ?_
            refine mS_aldc (b := 0) (n := 72) (c := 0) (z := (q8.2.1 288 0)) rfl (by decide) rfl (by decide) (by decide) (by decide) rfl ?_
            refine mS_steps (pc' := 145) (ls' := [.ref 279, .int a1, .int a2, .int (y.1 282 a2.toNatClampNeg), .int q8.1, mU]) (st' := [.int ((q8.2.1 288 0) &&& (((1 : Int32) <<< (q8.1 &&& 31)) ^^^ (-1 : Int32))), .int (0 : Int32), .ref 288]) (mem' := (mk x q8.2)) 6 rfl ?_
            refine mS_ast0yc (n := 72) (c := 0) rfl rfl (by decide) (by decide) (by decide) ?_
            refine mS_lety (fun y9 => ?_)
            refine mS_steps (pc' := 44) (ls' := [.ref 279, .int a1, .int (a2 + (1 : Int32)), .int (y.1 282 a2.toNatClampNeg), .int q8.1, mU]) (st' := []) (mem' := (mk x y9)) 3 rfl ?_
            refine mS_forget [.ref 279, .int a1, .int (a2 + (1 : Int32)), mU, mU, mU] ⟨Or.inr rfl, Or.inr rfl, Or.inr rfl, Or.inl rfl, Or.inl rfl, Or.inl rfl, trivial⟩ ?_
            exact ih a1 (a2 + (1 : Int32)) y9
        · refine mS_steps (pc' := 152) (ls' := [.ref 279, .int a1, .int a2, .int (y.1 282 a2.toNatClampNeg), mU, mU]) (st' := [.int (23 : Int32), .int (y.1 282 a2.toNatClampNeg)]) (mem' := (mk x y)) 2 rfl ?_
          refine mS_ic1 rfl (fun _ => ?_) (fun _ => ?_)
          · refine mS_steps (pc' := 160) (ls' := [.ref 279, .int a1, .int a2, .int (y.1 282 a2.toNatClampNeg), mU, mU]) (st' := [.int (a2 + (1 : Int32)), .ref 279, .ref 279]) (mem' := (mk x y)) 5 rfl ?_
            refine mS_bind (fun q10 hq10 => mS_call 81 2 [.ref 279, .int (a2 + (1 : Int32))] [.ref 279] rfl rfl rfl ⟨_, _, _, rfl, rfl⟩ (Nat.le_of_ble_eq_true rfl) (Nat.le_of_ble_eq_true rfl) hq10 (f_X11_known_snd (a2 + (1 : Int32)) y x) ?_)
            refine mS_steps (pc' := 163) (ls' := [.ref 279, .int a1, .int a2, .int (y.1 282 a2.toNatClampNeg), mU, mU]) (st' := [.int q10.1, .ref 279]) (mem' := (mk x q10.2)) 0 rfl ?_
            refine mS_puty rfl rfl (by decide) rfl ?_
            refine mS_lety (fun y11 => ?_)
            refine mS_steps (pc' := 44) (ls' := [.ref 279, .int a1, .int (a2 + (1 : Int32)), .int (y.1 282 a2.toNatClampNeg), mU, mU]) (st' := []) (mem' := (mk x y11)) 3 rfl ?_
            refine mS_forget [.ref 279, .int a1, .int (a2 + (1 : Int32)), mU, mU, mU] ⟨Or.inr rfl, Or.inr rfl, Or.inr rfl, Or.inl rfl, Or.inl rfl, Or.inl rfl, trivial⟩ ?_
            exact ih a1 (a2 + (1 : Int32)) y11
          · refine mS_steps (pc' := 172) (ls' := [.ref 279, .int a1, .int a2, .int (y.1 282 a2.toNatClampNeg), mU, mU]) (st' := [.int (21 : Int32), .int (y.1 282 a2.toNatClampNeg)]) (mem' := (mk x y)) 2 rfl ?_
            refine mS_ic1 rfl (fun _ => ?_) (fun _ => ?_)
            · refine mS_steps (pc' := 177) (ls' := [.ref 279, .int a1, .int a2, .int (y.1 282 a2.toNatClampNeg), mU, mU]) (st' := [.int a2, .ref 279]) (mem' := (mk x y)) 2 rfl ?_
              refine mS_bind (fun q12 hq12 => mS_call 84 2 [.ref 279, .int a2] [] rfl rfl rfl ⟨_, _, _, rfl, rfl⟩ (Nat.le_of_ble_eq_true rfl) (Nat.le_of_ble_eq_true rfl) hq12 (f_X11_meansLink_snd a2 y x) ?_)
              refine mS_steps (pc' := 44) (ls' := [.ref 279, .int a1, .int (a2 + (1 : Int32)), .int (y.1 282 a2.toNatClampNeg), mU, mU]) (st' := []) (mem' := (mk x q12)) 3 rfl ?_
              refine mS_forget [.ref 279, .int a1, .int (a2 + (1 : Int32)), mU, mU, mU] ⟨Or.inr rfl, Or.inr rfl, Or.inr rfl, Or.inl rfl, Or.inl rfl, Or.inl rfl, trivial⟩ ?_
              exact ih a1 (a2 + (1 : Int32)) q12
            · refine mS_steps (pc' := 186) (ls' := [.ref 279, .int a1, .int a2, .int (y.1 282 a2.toNatClampNeg), mU, mU]) (st' := [.int (24 : Int32), .int (y.1 282 a2.toNatClampNeg)]) (mem' := (mk x y)) 2 rfl ?_
              refine mS_ic1 rfl (fun _ => ?_) (fun _ => ?_)
              · refine mS_steps (pc' := 193) (ls' := [.ref 279, .int a1, .int a2, .int (y.1 282 a2.toNatClampNeg), mU, mU]) (st' := [.int (a2 + (1 : Int32)), .ref 279]) (mem' := (mk x y)) 4 rfl ?_
                refine mS_bind (fun q13 hq13 => mS_call 81 2 [.ref 279, .int (a2 + (1 : Int32))] [] rfl rfl rfl ⟨_, _, _, rfl, rfl⟩ (Nat.le_of_ble_eq_true rfl) (Nat.le_of_ble_eq_true rfl) hq13 (f_X11_known_snd (a2 + (1 : Int32)) y x) ?_)
                refine mS_steps (pc' := 202) (ls' := [.ref 279, .int a1, .int a2, .int (y.1 282 a2.toNatClampNeg), .int q13.1, mU]) (st' := [.int (a2 + (2 : Int32)), .ref 279]) (mem' := (mk x q13.2)) 5 rfl ?_
                refine mS_bind (fun q14 hq14 => mS_call 81 2 [.ref 279, .int (a2 + (2 : Int32))] [] rfl rfl rfl ⟨_, _, _, rfl, rfl⟩ (Nat.le_of_ble_eq_true rfl) (Nat.le_of_ble_eq_true rfl) hq14 (f_X11_known_snd (a2 + (2 : Int32)) q13.2 x) ?_)
                refine mS_steps (pc' := 209) (ls' := [.ref 279, .int a1, .int a2, .int (y.1 282 a2.toNatClampNeg), .int q13.1, .int q14.1]) (st' := [.int q13.1]) (mem' := (mk x q14.2)) 2 rfl ?_
                refine mS_if2 rfl (fun _ => ?_) (fun _ => ?_)
                · refine mS_steps (pc' := 44) (ls' := [.ref 279, .int a1, .int (a2 + (1 : Int32)), .int (y.1 282 a2.toNatClampNeg), .int q13.1, .int q14.1]) (st' := []) (mem' := (mk x q14.2)) 2 rfl ?_
                  refine mS_forget [.ref 279, .int a1, .int (a2 + (1 : Int32)), mU, mU, mU] ⟨Or.inr rfl, Or.inr rfl, Or.inr rfl, Or.inl rfl, Or.inl rfl, Or.inl rfl, trivial⟩ ?_
                  exact ih a1 (a2 + (1 : Int32)) q14.2
                · refine mS_steps (pc' := 214) (ls' := [.ref 279, .int a1, .int a2, .int (y.1 282 a2.toNatClampNeg), .int q13.1, .int q14.1]) (st' := [.int q14.1]) (mem' := (mk x q14.2)) 1 rfl ?_
                  refine mS_if2 rfl (fun _ => ?_) (fun _ => ?_)
                  · refine mS_steps (pc' := 44) (ls' := [.ref 279, .int a1, .int (a2 + (1 : Int32)), .int (y.1 282 a2.toNatClampNeg), .int q13.1, .int q14.1]) (st' := []) (mem' := (mk x q14.2)) 2 rfl ?_
                    refine mS_forget [.ref 279, .int a1, .int (a2 + (1 : Int32)), mU, mU, mU] ⟨Or.inr rfl, Or.inr rfl, Or.inr rfl, Or.inl rfl, Or.inl rfl, Or.inl rfl, trivial⟩ ?_
                    exact ih a1 (a2 + (1 : Int32)) q14.2
                  · refine mS_steps (pc' := 221) (ls' := [.ref 279, .int a1, .int a2, .int (y.1 282 a2.toNatClampNeg), .int q13.1, .int q14.1]) (st' := [.int q14.1, .int q13.1]) (mem' := (mk x q14.2)) 2 rfl ?_
                    refine mS_jn (fun j => ∀ z : Unit, mS fm L xs (fun r : mY => (mU, mk x r)) pg_X11_means 239 [.ref 279, .int a1, .int a2, mU, mU, mU] [] (mk x q14.2) (j z)) ?_ ?_
                    · intro z
                      refine mS_steps (pc' := 244) (ls' := [.ref 279, .int a1, .int a2, mU, mU, mU]) (st' := [.int (a2 + (2 : Int32)), .int (5 : Int32), .ref 279]) (mem' := (mk x q14.2)) 5 rfl ?_
                      refine mS_bind (fun q16 hq16 => mS_call 79 3 [.ref 279, .int (5 : Int32), .int (a2 + (2 : Int32))] [] rfl rfl rfl ⟨_, _, _, rfl, rfl⟩ (Nat.le_of_ble_eq_true rfl) (Nat.le_of_ble_eq_true rfl) hq16 (f_X11_wrong_snd (5 : Int32) (a2 + (2 : Int32)) q14.2 x) ?_)
                      refine mS_steps (pc' := 44) (ls' := [.ref 279, .int a1, .int (a2 + (1 : Int32)), mU, mU, mU]) (st' := []) (mem' := (mk x q16)) 2 rfl ?_
                      exact ih a1 (a2 + (1 : Int32)) q16
                    intro j15 hj15
                    refine mS_ic0 rfl (fun _ => ?_) (fun _ => ?_)
                    · refine mS_forget [.ref 279, .int a1, .int a2, mU, mU, mU] ⟨Or.inr rfl, Or.inr rfl, Or.inr rfl, Or.inl rfl, Or.inl rfl, Or.inl rfl, trivial⟩ ?_
                      exact hj15 ()
                    · refine mS_steps (pc' := 233) (ls' := [.ref 279, .int a1, .int a2, .int (y.1 282 a2.toNatClampNeg), .int q13.1, .int q14.1]) (st' := [.int (q14.2.1 279 10), .int q14.1, .int q13.1, .ref 279]) (mem' := (mk x q14.2)) 5 rfl ?_
                      refine mS_bind (fun q17 hq17 => mS_call 82 4 [.ref 279, .int q13.1, .int q14.1, .int (q14.2.1 279 10)] [] rfl rfl rfl ⟨_, _, _, rfl, rfl⟩ (Nat.le_of_ble_eq_true rfl) (Nat.le_of_ble_eq_true rfl) hq17 (f_X11_isLinked_snd q13.1 q14.1 (q14.2.1 279 10) q14.2 x) ?_)
                      refine mS_steps (pc' := 236) (ls' := [.ref 279, .int a1, .int a2, .int (y.1 282 a2.toNatClampNeg), .int q13.1, .int q14.1]) (st' := [.int q17]) (mem' := (mk x q14.2)) 0 rfl ?_
                      refine mS_if1 rfl (fun _ => ?_) (fun _ => ?_)
                      · refine mS_forget [.ref 279, .int a1, .int a2, mU, mU, mU] ⟨Or.inr rfl, Or.inr rfl, Or.inr rfl, Or.inl rfl, Or.inl rfl, Or.inl rfl, trivial⟩ ?_
                        exact hj15 ()
                      · refine mS_steps (pc' := 44) (ls' := [.ref 279, .int a1, .int (a2 + (1 : Int32)), .int (y.1 282 a2.toNatClampNeg), .int q13.1, .int q14.1]) (st' := []) (mem' := (mk x q14.2)) 2 rfl ?_
                        refine mS_forget [.ref 279, .int a1, .int (a2 + (1 : Int32)), mU, mU, mU] ⟨Or.inr rfl, Or.inr rfl, Or.inr rfl, Or.inl rfl, Or.inl rfl, Or.inl rfl, trivial⟩ ?_
                        exact ih a1 (a2 + (1 : Int32)) q14.2
              · refine mS_steps (pc' := 44) (ls' := [.ref 279, .int a1, .int (a2 + (1 : Int32)), .int (y.1 282 a2.toNatClampNeg), mU, mU]) (st' := []) (mem' := (mk x y)) 2 rfl ?_
                refine mS_forget [.ref 279, .int a1, .int (a2 + (1 : Int32)), mU, mU, mU] ⟨Or.inr rfl, Or.inr rfl, Or.inr rfl, Or.inl rfl, Or.inl rfl, Or.inl rfl, trivial⟩ ?_
                exact ih a1 (a2 + (1 : Int32)) y
set_option maxRecDepth 20000 in
set_option maxHeartbeats 2000000 in
theorem f_X11_means_snd {fm : Value} {L : Nat} {xs : Nat → Int32} (y : mY) (x : mX) : mS fm L xs (fun r : mY => (mU, mk x r)) pg_X11_means 0 (m_entry [.ref 279] 6) [] (mk x y) ((f_X11_means y)) := by
  unfold f_X11_means
  refine mS_steps (pc' := 0) (ls' := [.ref 279, mU, mU, mU, mU, mU]) (st' := []) (mem' := (mk x y)) 0 rfl ?_
  refine mS_steps (pc' := 2) (ls' := [.ref 279, .int (0 : Int32), mU, mU, mU, mU]) (st' := []) (mem' := (mk x y)) 2 rfl ?_
  refine f_X11_means_L2_snd x _ ?_ mF (0 : Int32) y
  · intro y2
    refine mS_steps (pc' := 34) (ls' := [.ref 279, mU, mU, mU, mU, mU]) (st' := [.int (((1 : Int32) <<< ((y2.1 279 19) &&& 31)) - (1 : Int32)), .int (0 : Int32), .ref 288]) (mem' := (mk x y2)) 9 rfl ?_
    refine mS_ast0yc (n := 72) (c := 0) rfl rfl (by decide) (by decide) (by decide) ?_
    refine mS_lety (fun y3 => ?_)
    refine mS_steps (pc' := 37) (ls' := [.ref 279, mU, mU, mU, mU, mU]) (st' := [.int (0 : Int32), .ref 279]) (mem' := (mk x y3)) 2 rfl ?_
    refine mS_puty rfl rfl (by decide) rfl ?_
    refine mS_lety (fun y4 => ?_)
    refine mS_steps (pc' := 44) (ls' := [.ref 279, .int (0 : Int32), .int (0 : Int32), mU, mU, mU]) (st' := []) (mem' := (mk x y4)) 4 rfl ?_
    refine f_X11_means_L44_snd x mF (0 : Int32) (0 : Int32) y4
def f_X11_has (p0 : Int32) (p1 : Int32) : Int32 := (if ((p0 >>> (p1 &&& 31)) &&& (1 : Int32)) = (1 : Int32) then (1 : Int32) else (0 : Int32))
set_option maxRecDepth 20000 in
set_option maxHeartbeats 2000000 in
theorem f_X11_has_snd {fm : Value} {L : Nat} {xs : Nat → Int32} (p0 : Int32) (p1 : Int32) (mem : mM) : mS fm L xs (fun r : Int32 => (.int r, mem)) pg_X11_has 0 (m_entry [.int p0, .int p1] 2) [] mem (some (f_X11_has p0 p1)) := by
  unfold f_X11_has
  refine mS_steps (pc' := 0) (ls' := [.int p0, .int p1]) (st' := []) (mem' := mem) 0 rfl ?_
  refine mS_steps (pc' := 6) (ls' := [.int p0, .int p1]) (st' := [.int (1 : Int32), .int ((p0 >>> (p1 &&& 31)) &&& (1 : Int32))]) (mem' := mem) 6 rfl ?_
  refine mS_ic1T rfl (fun _ => ?_) (fun _ => ?_)
  · refine mS_steps (pc' := 14) (ls' := [.int p0, .int p1]) (st' := [.int (1 : Int32)]) (mem' := mem) 2 rfl ?_
    exact mS_reti ⟨_, _, _, _, _, rfl, (by decide)⟩ rfl
  · refine mS_steps (pc' := 14) (ls' := [.int p0, .int p1]) (st' := [.int (0 : Int32)]) (mem' := mem) 1 rfl ?_
    exact mS_reti ⟨_, _, _, _, _, rfl, (by decide)⟩ rfl
def f_X11_isOn (p1 : Int32) (y : mY) : Option Int32 := (if m_nr 1 (f_X11_has (y.1 289 0) p1) = true then (some (f_X11_has (y.1 289 0) p1)) else none)
set_option maxRecDepth 20000 in
set_option maxHeartbeats 2000000 in
theorem f_X11_isOn_snd {fm : Value} {L : Nat} {xs : Nat → Int32} (p1 : Int32) (y : mY) (x : mX) : mS fm L xs (fun r : Int32 => (.int r, (mk x y))) pg_X11_isOn 0 (m_entry [.ref 279, .int p1] 2) [] (mk x y) ((f_X11_isOn p1 y)) := by
  unfold f_X11_isOn
  refine mS_steps (pc' := 0) (ls' := [.ref 279, .int p1]) (st' := []) (mem' := (mk x y)) 0 rfl ?_
  refine mS_steps (pc' := 5) (ls' := [.ref 279, .int p1]) (st' := [.int (0 : Int32), .ref 289]) (mem' := (mk x y)) 3 rfl ?_
  refine mS_aldc (b := 0) (n := 72) (c := 0) (z := (y.1 289 0)) rfl (by decide) rfl (by decide) (by decide) (by decide) rfl ?_
  refine mS_steps (pc' := 7) (ls' := [.ref 279, .int p1]) (st' := [.int p1, .int (y.1 289 0)]) (mem' := (mk x y)) 1 rfl ?_
  refine mS_call (q := (f_X11_has (y.1 289 0) p1)) 87 2 [.int (y.1 289 0), .int p1] [] rfl rfl rfl ⟨_, _, _, rfl, rfl⟩ (Nat.le_of_ble_eq_true rfl) (Nat.le_of_ble_eq_true rfl) rfl (f_X11_has_snd (y.1 289 0) p1 (mk x y)) ?_
  refine mS_steps (pc' := 10) (ls' := [.ref 279, .int p1]) (st' := [.int (f_X11_has (y.1 289 0) p1)]) (mem' := (mk x y)) 0 rfl ?_
  refine mS_guard (fun hz => ?_)
  exact mS_reti ⟨_, _, _, _, _, rfl, hz⟩ rfl
def f_X11_netLinks_L4 : Nat → Int32 → Int32 → mY → Option Int32
  | 0, _, _, _ => none
  | n + 1, a1, a2, y => (if (y.1 289 4) ≤ a2 then (some a1) else (if (f_X11_has (y.1 289 1) a2) = 0 then (f_X11_netLinks_L4 n a1 (a2 + (1 : Int32)) y) else (if m_in ((8 : Int32) + a2) 72 = true then ((f_X11_isOn (y.1 289 ((8 : Int32) + a2).toNatClampNeg) y).bind fun q1 => (if q1 = 0 then (f_X11_netLinks_L4 n a1 (a2 + (1 : Int32)) y) else (if m_in ((24 : Int32) + a2) 72 = true then ((f_X11_isOn (y.1 289 ((24 : Int32) + a2).toNatClampNeg) y).bind fun q2 => (if q2 = 0 then (f_X11_netLinks_L4 n a1 (a2 + (1 : Int32)) y) else (f_X11_netLinks_L4 n (a1 ||| ((1 : Int32) <<< (a2 &&& 31))) (a2 + (1 : Int32)) y))) else none))) else none)))
def f_X11_netLinks (y : mY) : Option Int32 := (f_X11_netLinks_L4 mF (0 : Int32) (0 : Int32) y)
set_option maxRecDepth 20000 in
set_option maxHeartbeats 2000000 in
theorem f_X11_netLinks_L4_snd {fm : Value} {L : Nat} {xs : Nat → Int32} (y : mY) (x : mX) : ∀ (n : Nat) (a1 : Int32) (a2 : Int32), mS fm L xs (fun r : Int32 => (.int r, (mk x y))) pg_X11_netLinks 4 [.ref 279, .int a1, .int a2] [] (mk x y) (f_X11_netLinks_L4 n a1 a2 y) := by
  intro n
  induction n with
  | zero => intro a1 a2; exact mS_none
  | succ n ih =>
    intro a1 a2
    rw [f_X11_netLinks_L4]
    refine mS_steps (pc' := 10) (ls' := [.ref 279, .int a1, .int a2]) (st' := [.int (4 : Int32), .ref 289, .int a2]) (mem' := (mk x y)) 4 rfl ?_
    refine mS_aldc (b := 0) (n := 72) (c := 4) (z := (y.1 289 4)) rfl (by decide) rfl (by decide) (by decide) (by decide) rfl ?_
    refine mS_ic3 rfl (fun _ => ?_) (fun _ => ?_)
    · refine mS_steps (pc' := 72) (ls' := [.ref 279, .int a1, .int a2]) (st' := [.int a1]) (mem' := (mk x y)) 1 rfl ?_
      exact mS_reti ⟨_, _, _, _, _, rfl, rfl⟩ rfl
    · refine mS_steps (pc' := 19) (ls' := [.ref 279, .int a1, .int a2]) (st' := [.int (1 : Int32), .ref 289]) (mem' := (mk x y)) 3 rfl ?_
      refine mS_aldc (b := 0) (n := 72) (c := 1) (z := (y.1 289 1)) rfl (by decide) rfl (by decide) (by decide) (by decide) rfl ?_
      refine mS_steps (pc' := 21) (ls' := [.ref 279, .int a1, .int a2]) (st' := [.int a2, .int (y.1 289 1)]) (mem' := (mk x y)) 1 rfl ?_
      refine mS_call (q := (f_X11_has (y.1 289 1) a2)) 87 2 [.int (y.1 289 1), .int a2] [] rfl rfl rfl ⟨_, _, _, rfl, rfl⟩ (Nat.le_of_ble_eq_true rfl) (Nat.le_of_ble_eq_true rfl) rfl (f_X11_has_snd (y.1 289 1) a2 (mk x y)) ?_
      refine mS_steps (pc' := 24) (ls' := [.ref 279, .int a1, .int a2]) (st' := [.int (f_X11_has (y.1 289 1) a2)]) (mem' := (mk x y)) 0 rfl ?_
      refine mS_if0 rfl (fun _ => ?_) (fun _ => ?_)
      · refine mS_steps (pc' := 4) (ls' := [.ref 279, .int a1, .int (a2 + (1 : Int32))]) (st' := []) (mem' := (mk x y)) 2 rfl ?_
        exact ih a1 (a2 + (1 : Int32))
      · refine mS_steps (pc' := 36) (ls' := [.ref 279, .int a1, .int a2]) (st' := [.int ((8 : Int32) + a2), .ref 289, .ref 279]) (mem' := (mk x y)) 6 rfl ?_
        refine mS_ald (b := 0) (n := 72) (z := (y.1 289 ((8 : Int32) + a2).toNatClampNeg)) rfl (by decide) rfl (by decide) rfl (fun _ => ?_)
        refine mS_bind (fun q1 hq1 => mS_call 88 2 [.ref 279, .int (y.1 289 ((8 : Int32) + a2).toNatClampNeg)] [] rfl rfl rfl ⟨_, _, _, rfl, rfl⟩ (Nat.le_of_ble_eq_true rfl) (Nat.le_of_ble_eq_true rfl) hq1 (f_X11_isOn_snd (y.1 289 ((8 : Int32) + a2).toNatClampNeg) y x) ?_)
        refine mS_steps (pc' := 40) (ls' := [.ref 279, .int a1, .int a2]) (st' := [.int q1]) (mem' := (mk x y)) 0 rfl ?_
        refine mS_if0 rfl (fun _ => ?_) (fun _ => ?_)
        · refine mS_steps (pc' := 4) (ls' := [.ref 279, .int a1, .int (a2 + (1 : Int32))]) (st' := []) (mem' := (mk x y)) 2 rfl ?_
          exact ih a1 (a2 + (1 : Int32))
        · refine mS_steps (pc' := 52) (ls' := [.ref 279, .int a1, .int a2]) (st' := [.int ((24 : Int32) + a2), .ref 289, .ref 279]) (mem' := (mk x y)) 6 rfl ?_
          refine mS_ald (b := 0) (n := 72) (z := (y.1 289 ((24 : Int32) + a2).toNatClampNeg)) rfl (by decide) rfl (by decide) rfl (fun _ => ?_)
          refine mS_bind (fun q2 hq2 => mS_call 88 2 [.ref 279, .int (y.1 289 ((24 : Int32) + a2).toNatClampNeg)] [] rfl rfl rfl ⟨_, _, _, rfl, rfl⟩ (Nat.le_of_ble_eq_true rfl) (Nat.le_of_ble_eq_true rfl) hq2 (f_X11_isOn_snd (y.1 289 ((24 : Int32) + a2).toNatClampNeg) y x) ?_)
          refine mS_steps (pc' := 56) (ls' := [.ref 279, .int a1, .int a2]) (st' := [.int q2]) (mem' := (mk x y)) 0 rfl ?_
          refine mS_if0 rfl (fun _ => ?_) (fun _ => ?_)
          · refine mS_steps (pc' := 4) (ls' := [.ref 279, .int a1, .int (a2 + (1 : Int32))]) (st' := []) (mem' := (mk x y)) 2 rfl ?_
            exact ih a1 (a2 + (1 : Int32))
          · refine mS_steps (pc' := 4) (ls' := [.ref 279, .int (a1 ||| ((1 : Int32) <<< (a2 &&& 31))), .int (a2 + (1 : Int32))]) (st' := []) (mem' := (mk x y)) 8 rfl ?_
            exact ih (a1 ||| ((1 : Int32) <<< (a2 &&& 31))) (a2 + (1 : Int32))
set_option maxRecDepth 20000 in
set_option maxHeartbeats 2000000 in
theorem f_X11_netLinks_snd {fm : Value} {L : Nat} {xs : Nat → Int32} (y : mY) (x : mX) : mS fm L xs (fun r : Int32 => (.int r, (mk x y))) pg_X11_netLinks 0 (m_entry [.ref 279] 3) [] (mk x y) ((f_X11_netLinks y)) := by
  unfold f_X11_netLinks
  refine mS_steps (pc' := 0) (ls' := [.ref 279, mU, mU]) (st' := []) (mem' := (mk x y)) 0 rfl ?_
  refine mS_steps (pc' := 4) (ls' := [.ref 279, .int (0 : Int32), .int (0 : Int32)]) (st' := []) (mem' := (mk x y)) 4 rfl ?_
  refine f_X11_netLinks_L4_snd y x mF (0 : Int32) (0 : Int32)
def f_X11_learns (y : mY) : Option mY := (m_let (m_ys y 289 2 (y.1 289 0)) fun y1 => ((f_X11_netLinks y1).bind fun q2 => (m_let (m_ys y1 289 3 q2) fun y3 => (m_let (m_ys y3 279 30 (0 : Int32)) fun y4 => (some y4)))))
set_option maxRecDepth 20000 in
set_option maxHeartbeats 2000000 in
theorem f_X11_learns_snd {fm : Value} {L : Nat} {xs : Nat → Int32} (y : mY) (x : mX) : mS fm L xs (fun r : mY => (mU, mk x r)) pg_X11_learns 0 (m_entry [.ref 279] 1) [] (mk x y) ((f_X11_learns y)) := by
  unfold f_X11_learns
  refine mS_steps (pc' := 0) (ls' := [.ref 279]) (st' := []) (mem' := (mk x y)) 0 rfl ?_
  refine mS_steps (pc' := 10) (ls' := [.ref 279]) (st' := [.int (0 : Int32), .ref 289, .int (2 : Int32), .ref 289]) (mem' := (mk x y)) 6 rfl ?_
  refine mS_aldc (b := 0) (n := 72) (c := 0) (z := (y.1 289 0)) rfl (by decide) rfl (by decide) (by decide) (by decide) rfl ?_
  refine mS_ast0yc (n := 72) (c := 2) rfl rfl (by decide) (by decide) (by decide) ?_
  refine mS_lety (fun y1 => ?_)
  refine mS_steps (pc' := 18) (ls' := [.ref 279]) (st' := [.ref 279, .int (3 : Int32), .ref 289]) (mem' := (mk x y1)) 4 rfl ?_
  refine mS_bind (fun q2 hq2 => mS_call 89 1 [.ref 279] [.int (3 : Int32), .ref 289] rfl rfl rfl ⟨_, _, _, rfl, rfl⟩ (Nat.le_of_ble_eq_true rfl) (Nat.le_of_ble_eq_true rfl) hq2 (f_X11_netLinks_snd  y1 x) ?_)
  refine mS_steps (pc' := 21) (ls' := [.ref 279]) (st' := [.int q2, .int (3 : Int32), .ref 289]) (mem' := (mk x y1)) 0 rfl ?_
  refine mS_ast0yc (n := 72) (c := 3) rfl rfl (by decide) (by decide) (by decide) ?_
  refine mS_lety (fun y3 => ?_)
  refine mS_steps (pc' := 24) (ls' := [.ref 279]) (st' := [.int (0 : Int32), .ref 279]) (mem' := (mk x y3)) 2 rfl ?_
  refine mS_putcy rfl rfl (by decide) rfl (by decide) ?_
  refine mS_lety (fun y4 => ?_)
  exact mS_retv ⟨_, _, _, _, _, rfl⟩ rfl
def f_X11_read_L10 : Nat → Int32 → mY → (mY → Option (Int32 × mY)) → Option (Int32 × mY)
  | 0, _, _, _ => none
  | n + 1, a1, y, k36 => (if (y.1 279 4) ≤ a1 then (k36 y) else (if m_in a1 2000 = true then (if m_in a1 2000 = true then (m_let (m_ys y 281 a1.toNatClampNeg (vp_nar .byte (y.1 280 a1.toNatClampNeg))) fun y2 => (f_X11_read_L10 n (a1 + (1 : Int32)) y2 k36)) else none) else none))
def f_X11_read_L70 : Nat → mY → (mY → Option (Int32 × mY)) → Option (Int32 × mY)
  | 0, _, _ => none
  | n + 1, y, k92 => (if (y.1 279 12) = 0 then ((f_X11_is (0 : Int32) y).bind fun q11 => (if q11 = 0 then ((f_X11_line y).bind fun q12 => (f_X11_read_L70 n q12 k92)) else (k92 y))) else (k92 y))
def f_X11_read_L190 : Nat → Int32 → mY → (mY → Option (Int32 × mY)) → Option (Int32 × mY)
  | 0, _, _, _ => none
  | n + 1, a1, y, k214 => (if (72 : Int32) ≤ a1 then (k214 y) else (if m_in a1 72 = true then (if m_in a1 72 = true then (m_let (m_ys y 289 a1.toNatClampNeg (y.1 288 a1.toNatClampNeg)) fun y23 => (f_X11_read_L190 n (a1 + (1 : Int32)) y23 k214)) else none) else none))
def f_X11_read_L225 : Nat → Int32 → mY → Option (Int32 × mY)
  | 0, _, _ => none
  | n + 1, a1, y => (if (3 : Int32) ≤ a1 then (some ((0 : Int32), y)) else (if m_in a1 3 = true then (m_let (m_ys y 292 a1.toNatClampNeg (vp_nar .boolean (0 : Int32))) fun y27 => (f_X11_read_L225 n (a1 + (1 : Int32)) y27)) else none))
def f_X11_read (y : mY) : Option (Int32 × mY) := (m_let (m_ys y 279 4 (y.1 279 2)) fun y1 => (f_X11_read_L10 mF (0 : Int32) y1 (fun y3 => (m_let (m_ys y3 279 2 (0 : Int32)) fun y4 => ((f_X11_parts y4).bind fun q5 => (m_let (m_ys q5 279 11 (0 : Int32)) fun y6 => (m_let (m_ys y6 279 12 (0 : Int32)) fun y7 => (m_let (m_ys y7 279 14 (0 : Int32)) fun y8 => (m_let (m_ys y8 279 19 (0 : Int32)) fun y9 => (m_let (m_ys y9 279 20 (0 : Int32)) fun y10 => (f_X11_read_L70 mF y10 (fun y13 => (m_jn (fun y15 => (m_jn (fun w17 => (m_let (m_ys y15 279 16 w17) fun y18 => (if (y18.1 279 12) ≤ 0 then (if (y18.1 279 14) ≤ 0 then (m_let (m_ys y18 279 17 (y18.1 279 19)) fun y19 => (m_jn (fun w21 => (m_let (m_ys y19 279 18 w21) fun y22 => (f_X11_read_L190 mF (0 : Int32) y22 (fun y24 => ((f_X11_learns y24).bind fun q25 => (m_let (m_ys q25 279 27 (0 : Int32)) fun y26 => (f_X11_read_L225 mF (0 : Int32) y26))))))) (fun j20 => if (y19.1 279 17) = 0 then (j20 (-2 : Int32)) else (j20 (y19.1 279 21))))) else (some ((y18.1 279 14), y18))) else (some ((y18.1 279 12), y18))))) (fun j16 => if (y15.1 279 12) ≤ 0 then (if (y15.1 279 14) ≤ 0 then (j16 (-1 : Int32)) else (j16 (y15.1 279 15))) else (j16 (y15.1 279 13))))) (fun j14 => if (y13.1 279 12) = 0 then ((f_X11_means y13).bind fun q28 => (j14 q28)) else (j14 y13)))))))))))))))
set_option maxRecDepth 20000 in
set_option maxHeartbeats 2000000 in
theorem f_X11_read_L10_snd {fm : Value} {L : Nat} {xs : Nat → Int32} (x : mX) (k36 : mY → Option (Int32 × mY)) (hk36 : ∀ (z0 : mY), mS fm L xs (fun r : (Int32 × mY) => (.int r.1, mk x r.2)) pg_X11_read 36 [.ref 279, mU] [] (mk x z0) (k36 z0)) : ∀ (n : Nat) (a1 : Int32) (y : mY), mS fm L xs (fun r : (Int32 × mY) => (.int r.1, mk x r.2)) pg_X11_read 10 [.ref 279, .int a1] [] (mk x y) (f_X11_read_L10 n a1 y k36) := by
  intro n
  induction n with
  | zero => intro a1 y; exact mS_none
  | succ n ih =>
    intro a1 y
    rw [f_X11_read_L10]
    refine mS_steps (pc' := 15) (ls' := [.ref 279, .int a1]) (st' := [.int (y.1 279 4), .int a1]) (mem' := (mk x y)) 3 rfl ?_
    refine mS_ic3 rfl (fun _ => ?_) (fun _ => ?_)
    · refine mS_forget [.ref 279, mU] ⟨Or.inr rfl, Or.inl rfl, trivial⟩ ?_
      exact hk36 y
    · refine mS_steps (pc' := 28) (ls' := [.ref 279, .int a1]) (st' := [.int a1, .ref 280, .int a1, .ref 281]) (mem' := (mk x y)) 6 rfl ?_
      refine mS_ald (b := 2) (n := 2000) (z := (y.1 280 a1.toNatClampNeg)) rfl (by decide) rfl (by decide) rfl (fun _ => ?_)
      refine mS_ast2y (n := 2000) rfl rfl (by decide) (fun _ => ?_)
      refine mS_lety (fun y2 => ?_)
      refine mS_steps (pc' := 10) (ls' := [.ref 279, .int (a1 + (1 : Int32))]) (st' := []) (mem' := (mk x y2)) 2 rfl ?_
      exact ih (a1 + (1 : Int32)) y2
set_option maxRecDepth 20000 in
set_option maxHeartbeats 2000000 in
theorem f_X11_read_L70_snd {fm : Value} {L : Nat} {xs : Nat → Int32} (x : mX) (k92 : mY → Option (Int32 × mY)) (hk92 : ∀ (z0 : mY), mS fm L xs (fun r : (Int32 × mY) => (.int r.1, mk x r.2)) pg_X11_read 92 [.ref 279, mU] [] (mk x z0) (k92 z0)) : ∀ (n : Nat) (y : mY), mS fm L xs (fun r : (Int32 × mY) => (.int r.1, mk x r.2)) pg_X11_read 70 [.ref 279, mU] [] (mk x y) (f_X11_read_L70 n y k92) := by
  intro n
  induction n with
  | zero => intro y; exact mS_none
  | succ n ih =>
    intro y
    rw [f_X11_read_L70]
    refine mS_steps (pc' := 74) (ls' := [.ref 279, mU]) (st' := [.int (y.1 279 12)]) (mem' := (mk x y)) 2 rfl ?_
    refine mS_if1 rfl (fun _ => ?_) (fun _ => ?_)
    · refine mS_steps (pc' := 79) (ls' := [.ref 279, mU]) (st' := [.int (0 : Int32), .ref 279]) (mem' := (mk x y)) 2 rfl ?_
      refine mS_bind (fun q11 hq11 => mS_call 74 2 [.ref 279, .int (0 : Int32)] [] rfl rfl rfl ⟨_, _, _, rfl, rfl⟩ (Nat.le_of_ble_eq_true rfl) (Nat.le_of_ble_eq_true rfl) hq11 (f_X11_is_snd (0 : Int32) y x) ?_)
      refine mS_steps (pc' := 82) (ls' := [.ref 279, mU]) (st' := [.int q11]) (mem' := (mk x y)) 0 rfl ?_
      refine mS_if1 rfl (fun _ => ?_) (fun _ => ?_)
      · refine mS_steps (pc' := 86) (ls' := [.ref 279, mU]) (st' := [.ref 279]) (mem' := (mk x y)) 1 rfl ?_
        refine mS_bind (fun q12 hq12 => mS_call 78 1 [.ref 279] [] rfl rfl rfl ⟨_, _, _, rfl, rfl⟩ (Nat.le_of_ble_eq_true rfl) (Nat.le_of_ble_eq_true rfl) hq12 (f_X11_line_snd  y x) ?_)
        refine mS_steps (pc' := 70) (ls' := [.ref 279, mU]) (st' := []) (mem' := (mk x q12)) 1 rfl ?_
        exact ih q12
      · exact hk92 y
    · exact hk92 y
set_option maxRecDepth 20000 in
set_option maxHeartbeats 2000000 in
theorem f_X11_read_L190_snd {fm : Value} {L : Nat} {xs : Nat → Int32} (x : mX) (k214 : mY → Option (Int32 × mY)) (hk214 : ∀ (z0 : mY), mS fm L xs (fun r : (Int32 × mY) => (.int r.1, mk x r.2)) pg_X11_read 214 [.ref 279, mU] [] (mk x z0) (k214 z0)) : ∀ (n : Nat) (a1 : Int32) (y : mY), mS fm L xs (fun r : (Int32 × mY) => (.int r.1, mk x r.2)) pg_X11_read 190 [.ref 279, .int a1] [] (mk x y) (f_X11_read_L190 n a1 y k214) := by
  intro n
  induction n with
  | zero => intro a1 y; exact mS_none
  | succ n ih =>
    intro a1 y
    rw [f_X11_read_L190]
    refine mS_steps (pc' := 193) (ls' := [.ref 279, .int a1]) (st' := [.int (72 : Int32), .int a1]) (mem' := (mk x y)) 2 rfl ?_
    refine mS_ic3 rfl (fun _ => ?_) (fun _ => ?_)
    · refine mS_forget [.ref 279, mU] ⟨Or.inr rfl, Or.inl rfl, trivial⟩ ?_
      exact hk214 y
    · refine mS_steps (pc' := 206) (ls' := [.ref 279, .int a1]) (st' := [.int a1, .ref 288, .int a1, .ref 289]) (mem' := (mk x y)) 6 rfl ?_
      refine mS_ald (b := 0) (n := 72) (z := (y.1 288 a1.toNatClampNeg)) rfl (by decide) rfl (by decide) rfl (fun _ => ?_)
      refine mS_ast0y (n := 72) rfl rfl (by decide) (fun _ => ?_)
      refine mS_lety (fun y23 => ?_)
      refine mS_steps (pc' := 190) (ls' := [.ref 279, .int (a1 + (1 : Int32))]) (st' := []) (mem' := (mk x y23)) 2 rfl ?_
      exact ih (a1 + (1 : Int32)) y23
set_option maxRecDepth 20000 in
set_option maxHeartbeats 2000000 in
theorem f_X11_read_L225_snd {fm : Value} {L : Nat} {xs : Nat → Int32} (x : mX) : ∀ (n : Nat) (a1 : Int32) (y : mY), mS fm L xs (fun r : (Int32 × mY) => (.int r.1, mk x r.2)) pg_X11_read 225 [.ref 279, .int a1] [] (mk x y) (f_X11_read_L225 n a1 y) := by
  intro n
  induction n with
  | zero => intro a1 y; exact mS_none
  | succ n ih =>
    intro a1 y
    rw [f_X11_read_L225]
    refine mS_steps (pc' := 227) (ls' := [.ref 279, .int a1]) (st' := [.int (3 : Int32), .int a1]) (mem' := (mk x y)) 2 rfl ?_
    refine mS_ic3 rfl (fun _ => ?_) (fun _ => ?_)
    · refine mS_steps (pc' := 244) (ls' := [.ref 279, .int a1]) (st' := [.int (0 : Int32)]) (mem' := (mk x y)) 1 rfl ?_
      exact mS_reti ⟨_, _, _, _, _, rfl, rfl⟩ rfl
    · refine mS_steps (pc' := 236) (ls' := [.ref 279, .int a1]) (st' := [.int (0 : Int32), .int a1, .ref 292]) (mem' := (mk x y)) 4 rfl ?_
      refine mS_ast3y (n := 3) rfl rfl (by decide) (fun _ => ?_)
      refine mS_lety (fun y27 => ?_)
      refine mS_steps (pc' := 225) (ls' := [.ref 279, .int (a1 + (1 : Int32))]) (st' := []) (mem' := (mk x y27)) 2 rfl ?_
      exact ih (a1 + (1 : Int32)) y27
set_option maxRecDepth 20000 in
set_option maxHeartbeats 2000000 in
theorem f_X11_read_snd {fm : Value} {L : Nat} {xs : Nat → Int32} (y : mY) (x : mX) : mS fm L xs (fun r : (Int32 × mY) => (.int r.1, mk x r.2)) pg_X11_read 0 (m_entry [.ref 279] 2) [] (mk x y) ((f_X11_read y)) := by
  unfold f_X11_read
  refine mS_steps (pc' := 0) (ls' := [.ref 279, mU]) (st' := []) (mem' := (mk x y)) 0 rfl ?_
  refine mS_steps (pc' := 5) (ls' := [.ref 279, mU]) (st' := [.int (y.1 279 2), .ref 279]) (mem' := (mk x y)) 3 rfl ?_
  refine mS_puty rfl rfl (by decide) rfl ?_
  refine mS_lety (fun y1 => ?_)
  refine mS_steps (pc' := 10) (ls' := [.ref 279, .int (0 : Int32)]) (st' := []) (mem' := (mk x y1)) 2 rfl ?_
  refine f_X11_read_L10_snd x _ ?_ mF (0 : Int32) y1
  · intro y3
    refine mS_steps (pc' := 38) (ls' := [.ref 279, mU]) (st' := [.int (0 : Int32), .ref 279]) (mem' := (mk x y3)) 2 rfl ?_
    refine mS_puty rfl rfl (by decide) rfl ?_
    refine mS_lety (fun y4 => ?_)
    refine mS_steps (pc' := 42) (ls' := [.ref 279, mU]) (st' := [.ref 279]) (mem' := (mk x y4)) 1 rfl ?_
    refine mS_bind (fun q5 hq5 => mS_call 73 1 [.ref 279] [] rfl rfl rfl ⟨_, _, _, rfl, rfl⟩ (Nat.le_of_ble_eq_true rfl) (Nat.le_of_ble_eq_true rfl) hq5 (f_X11_parts_snd  y4 x) ?_)
    refine mS_steps (pc' := 47) (ls' := [.ref 279, mU]) (st' := [.int (0 : Int32), .ref 279]) (mem' := (mk x q5)) 2 rfl ?_
    refine mS_puty rfl rfl (by decide) rfl ?_
    refine mS_lety (fun y6 => ?_)
    refine mS_steps (pc' := 52) (ls' := [.ref 279, mU]) (st' := [.int (0 : Int32), .ref 279]) (mem' := (mk x y6)) 2 rfl ?_
    refine mS_puty rfl rfl (by decide) rfl ?_
    refine mS_lety (fun y7 => ?_)
    refine mS_steps (pc' := 57) (ls' := [.ref 279, mU]) (st' := [.int (0 : Int32), .ref 279]) (mem' := (mk x y7)) 2 rfl ?_
    refine mS_puty rfl rfl (by decide) rfl ?_
    refine mS_lety (fun y8 => ?_)
    refine mS_steps (pc' := 62) (ls' := [.ref 279, mU]) (st' := [.int (0 : Int32), .ref 279]) (mem' := (mk x y8)) 2 rfl ?_
    refine mS_puty rfl rfl (by decide) rfl ?_
    refine mS_lety (fun y9 => ?_)
    refine mS_steps (pc' := 67) (ls' := [.ref 279, mU]) (st' := [.int (0 : Int32), .ref 279]) (mem' := (mk x y9)) 2 rfl ?_
    refine mS_puty rfl rfl (by decide) rfl ?_
    refine mS_lety (fun y10 => ?_)
    refine f_X11_read_L70_snd x _ ?_ mF y10
    · intro y13
      refine mS_steps (pc' := 96) (ls' := [.ref 279, mU]) (st' := [.int (y13.1 279 12)]) (mem' := (mk x y13)) 2 rfl ?_
      refine mS_jn (fun j => ∀ z : mY, mS fm L xs (fun r : (Int32 × mY) => (.int r.1, mk x r.2)) pg_X11_read 103 [.ref 279, mU] [] (mk x z) (j z)) ?_ ?_
      · intro z
        revert z; intro y15
        refine mS_steps (pc' := 108) (ls' := [.ref 279, mU]) (st' := [.int (y15.1 279 12), .ref 279]) (mem' := (mk x y15)) 3 rfl ?_
        refine mS_jn (fun j => ∀ z : Int32, mS fm L xs (fun r : (Int32 × mY) => (.int r.1, mk x r.2)) pg_X11_read 133 [.ref 279, mU] [.int z, .ref 279] (mk x y15) (j z)) ?_ ?_
        · intro z
          revert z; intro w17
          refine mS_puty rfl rfl (by decide) rfl ?_
          refine mS_lety (fun y18 => ?_)
          refine mS_steps (pc' := 140) (ls' := [.ref 279, mU]) (st' := [.int (y18.1 279 12)]) (mem' := (mk x y18)) 2 rfl ?_
          refine mS_if5 rfl (fun _ => ?_) (fun _ => ?_)
          · refine mS_steps (pc' := 152) (ls' := [.ref 279, mU]) (st' := [.int (y18.1 279 14)]) (mem' := (mk x y18)) 2 rfl ?_
            refine mS_if5 rfl (fun _ => ?_) (fun _ => ?_)
            · refine mS_steps (pc' := 165) (ls' := [.ref 279, mU]) (st' := [.int (y18.1 279 19), .ref 279]) (mem' := (mk x y18)) 3 rfl ?_
              refine mS_puty rfl rfl (by decide) rfl ?_
              refine mS_lety (fun y19 => ?_)
              refine mS_steps (pc' := 173) (ls' := [.ref 279, mU]) (st' := [.int (y19.1 279 17), .ref 279]) (mem' := (mk x y19)) 3 rfl ?_
              refine mS_jn (fun j => ∀ z : Int32, mS fm L xs (fun r : (Int32 × mY) => (.int r.1, mk x r.2)) pg_X11_read 185 [.ref 279, mU] [.int z, .ref 279] (mk x y19) (j z)) ?_ ?_
              · intro z
                revert z; intro w21
                refine mS_puty rfl rfl (by decide) rfl ?_
                refine mS_lety (fun y22 => ?_)
                refine mS_steps (pc' := 190) (ls' := [.ref 279, .int (0 : Int32)]) (st' := []) (mem' := (mk x y22)) 2 rfl ?_
                refine f_X11_read_L190_snd x _ ?_ mF (0 : Int32) y22
                · intro y24
                  refine mS_steps (pc' := 215) (ls' := [.ref 279, mU]) (st' := [.ref 279]) (mem' := (mk x y24)) 1 rfl ?_
                  refine mS_bind (fun q25 hq25 => mS_call 90 1 [.ref 279] [] rfl rfl rfl ⟨_, _, _, rfl, rfl⟩ (Nat.le_of_ble_eq_true rfl) (Nat.le_of_ble_eq_true rfl) hq25 (f_X11_learns_snd  y24 x) ?_)
                  refine mS_steps (pc' := 220) (ls' := [.ref 279, mU]) (st' := [.int (0 : Int32), .ref 279]) (mem' := (mk x q25)) 2 rfl ?_
                  refine mS_puty rfl rfl (by decide) rfl ?_
                  refine mS_lety (fun y26 => ?_)
                  refine mS_steps (pc' := 225) (ls' := [.ref 279, .int (0 : Int32)]) (st' := []) (mem' := (mk x y26)) 2 rfl ?_
                  refine f_X11_read_L225_snd x mF (0 : Int32) y26
              intro j20 hj20
              refine mS_if1 rfl (fun _ => ?_) (fun _ => ?_)
              · refine mS_steps (pc' := 185) (ls' := [.ref 279, mU]) (st' := [.int (-2 : Int32), .ref 279]) (mem' := (mk x y19)) 2 rfl ?_
                exact hj20 (-2 : Int32)
              · refine mS_steps (pc' := 185) (ls' := [.ref 279, mU]) (st' := [.int (y19.1 279 21), .ref 279]) (mem' := (mk x y19)) 2 rfl ?_
                exact hj20 (y19.1 279 21)
            · refine mS_steps (pc' := 159) (ls' := [.ref 279, mU]) (st' := [.int (y18.1 279 14)]) (mem' := (mk x y18)) 2 rfl ?_
              exact mS_reti ⟨_, _, _, _, _, rfl, rfl⟩ rfl
          · refine mS_steps (pc' := 147) (ls' := [.ref 279, mU]) (st' := [.int (y18.1 279 12)]) (mem' := (mk x y18)) 2 rfl ?_
            exact mS_reti ⟨_, _, _, _, _, rfl, rfl⟩ rfl
        intro j16 hj16
        refine mS_if5 rfl (fun _ => ?_) (fun _ => ?_)
        · refine mS_steps (pc' := 122) (ls' := [.ref 279, mU]) (st' := [.int (y15.1 279 14), .ref 279]) (mem' := (mk x y15)) 2 rfl ?_
          refine mS_if5 rfl (fun _ => ?_) (fun _ => ?_)
          · refine mS_steps (pc' := 133) (ls' := [.ref 279, mU]) (st' := [.int (-1 : Int32), .ref 279]) (mem' := (mk x y15)) 1 rfl ?_
            exact hj16 (-1 : Int32)
          · refine mS_steps (pc' := 133) (ls' := [.ref 279, mU]) (st' := [.int (y15.1 279 15), .ref 279]) (mem' := (mk x y15)) 3 rfl ?_
            exact hj16 (y15.1 279 15)
        · refine mS_steps (pc' := 133) (ls' := [.ref 279, mU]) (st' := [.int (y15.1 279 13), .ref 279]) (mem' := (mk x y15)) 3 rfl ?_
          exact hj16 (y15.1 279 13)
      intro j14 hj14
      refine mS_if1 rfl (fun _ => ?_) (fun _ => ?_)
      · refine mS_steps (pc' := 100) (ls' := [.ref 279, mU]) (st' := [.ref 279]) (mem' := (mk x y13)) 1 rfl ?_
        refine mS_bind (fun q28 hq28 => mS_call 86 1 [.ref 279] [] rfl rfl rfl ⟨_, _, _, rfl, rfl⟩ (Nat.le_of_ble_eq_true rfl) (Nat.le_of_ble_eq_true rfl) hq28 (f_X11_means_snd  y13 x) ?_)
        refine mS_steps (pc' := 103) (ls' := [.ref 279, mU]) (st' := []) (mem' := (mk x q28)) 0 rfl ?_
        exact hj14 q28
      · exact hj14 y13
def f_X10_place (x : mX) : Int32 := (x.1 1 1)
set_option maxRecDepth 20000 in
set_option maxHeartbeats 2000000 in
theorem f_X10_place_snd {fm : Value} {L : Nat} {xs : Nat → Int32} (x : mX) (y : mY) : mS fm L xs (fun r : Int32 => (.int r, (mk x y))) pg_X10_place 0 (m_entry [.ref 0] 1) [] (mk x y) (some (f_X10_place x)) := by
  unfold f_X10_place
  refine mS_steps (pc' := 0) (ls' := [.ref 0]) (st' := []) (mem' := (mk x y)) 0 rfl ?_
  refine mS_steps (pc' := 7) (ls' := [.ref 0]) (st' := [.int (x.1 1 1)]) (mem' := (mk x y)) 3 rfl ?_
  exact mS_reti ⟨_, _, _, _, _, rfl, rfl⟩ rfl
def f_X11_place (y : mY) : Int32 := (y.1 279 16)
set_option maxRecDepth 20000 in
set_option maxHeartbeats 2000000 in
theorem f_X11_place_snd {fm : Value} {L : Nat} {xs : Nat → Int32} (y : mY) (x : mX) : mS fm L xs (fun r : Int32 => (.int r, (mk x y))) pg_X11_place 0 (m_entry [.ref 279] 1) [] (mk x y) (some (f_X11_place y)) := by
  unfold f_X11_place
  refine mS_steps (pc' := 0) (ls' := [.ref 279]) (st' := []) (mem' := (mk x y)) 0 rfl ?_
  refine mS_steps (pc' := 4) (ls' := [.ref 279]) (st' := [.int (y.1 279 16)]) (mem' := (mk x y)) 2 rfl ?_
  exact mS_reti ⟨_, _, _, _, _, rfl, rfl⟩ rfl
def f_X10_isLink (p1 : Int32) (x : mX) : Int32 := (if p1 < 0 then (0 : Int32) else (if (x.1 14 1) ≤ p1 then (0 : Int32) else (1 : Int32)))
set_option maxRecDepth 20000 in
set_option maxHeartbeats 2000000 in
theorem f_X10_isLink_snd {fm : Value} {L : Nat} {xs : Nat → Int32} (p1 : Int32) (x : mX) (y : mY) : mS fm L xs (fun r : Int32 => (.int r, (mk x y))) pg_X10_isLink 0 (m_entry [.ref 0, .int p1] 2) [] (mk x y) (some (f_X10_isLink p1 x)) := by
  unfold f_X10_isLink
  refine mS_steps (pc' := 0) (ls' := [.ref 0, .int p1]) (st' := []) (mem' := (mk x y)) 0 rfl ?_
  refine mS_steps (pc' := 1) (ls' := [.ref 0, .int p1]) (st' := [.int p1]) (mem' := (mk x y)) 1 rfl ?_
  refine mS_if2T rfl (fun _ => ?_) (fun _ => ?_)
  · refine mS_steps (pc' := 20) (ls' := [.ref 0, .int p1]) (st' := [.int (0 : Int32)]) (mem' := (mk x y)) 1 rfl ?_
    exact mS_reti ⟨_, _, _, _, _, rfl, (by decide)⟩ rfl
  · refine mS_steps (pc' := 12) (ls' := [.ref 0, .int p1]) (st' := [.int (x.1 14 1), .int p1]) (mem' := (mk x y)) 4 rfl ?_
    refine mS_ic3T rfl (fun _ => ?_) (fun _ => ?_)
    · refine mS_steps (pc' := 20) (ls' := [.ref 0, .int p1]) (st' := [.int (0 : Int32)]) (mem' := (mk x y)) 1 rfl ?_
      exact mS_reti ⟨_, _, _, _, _, rfl, (by decide)⟩ rfl
    · refine mS_steps (pc' := 20) (ls' := [.ref 0, .int p1]) (st' := [.int (1 : Int32)]) (mem' := (mk x y)) 2 rfl ?_
      exact mS_reti ⟨_, _, _, _, _, rfl, (by decide)⟩ rfl
def f_X2_keep (x : mX) : Option mX := (if m_in (x.1 19 1) 40 = true then ((mRR x.2.2 20 (x.1 19 1).toNatClampNeg).bind fun q1 => ((f_X6_copy q1 14 x).bind fun q2 => (m_jn (fun w4 => (m_let (m_xs q2 19 1 w4) fun x5 => (m_let (m_xs x5 19 0 (if (40 : Int32) < ((x5.1 19 0) + (1 : Int32)) then (40 : Int32) else ((x5.1 19 0) + (1 : Int32)))) fun x6 => (some x6)))) (fun j3 => if (40 : Int32) ≤ ((q2.1 19 1) + (1 : Int32)) then (j3 (0 : Int32)) else (j3 ((q2.1 19 1) + (1 : Int32))))))) else none)
set_option maxRecDepth 20000 in
set_option maxHeartbeats 2000000 in
theorem f_X2_keep_snd {fm : Value} {L : Nat} {xs : Nat → Int32} (x : mX) (y : mY) : mS fm L xs (fun r : mX => (mU, mk r y)) pg_X2_keep 0 (m_entry [.ref 19, .ref 14] 2) [] (mk x y) ((f_X2_keep x)) := by
  unfold f_X2_keep
  refine mS_steps (pc' := 0) (ls' := [.ref 19, .ref 14]) (st' := []) (mem' := (mk x y)) 0 rfl ?_
  refine mS_steps (pc' := 8) (ls' := [.ref 19, .ref 14]) (st' := [.int (x.1 19 1), .ref 20]) (mem' := (mk x y)) 4 rfl ?_
  refine mS_aald (n := 40) rfl rfl (by decide) (fun hiq1 => mS_bind (fun q1 hq1 => mS_aald2 rfl rfl (by decide) hiq1 hq1 ?_))
  refine mS_steps (pc' := 10) (ls' := [.ref 19, .ref 14]) (st' := [.ref 14, .ref q1]) (mem' := (mk x y)) 1 rfl ?_
  refine mS_bind (fun q2 hq2 => mS_call 64 2 [.ref q1, .ref 14] [] rfl rfl rfl ⟨_, _, _, rfl, (m_rcvV (m_past hiq1 hq1))⟩ (Nat.le_of_ble_eq_true rfl) (Nat.le_of_ble_eq_true rfl) hq2 (f_X6_copy_snd q1 14 (m_past hiq1 hq1) (m_stq 14 (by decide)) x y) ?_)
  refine mS_steps (pc' := 22) (ls' := [.ref 19, .ref 14]) (st' := [.int (40 : Int32), .int ((q2.1 19 1) + (1 : Int32)), .ref 19]) (mem' := (mk q2 y)) 6 rfl ?_
  refine mS_jn (fun j => ∀ z : Int32, mS fm L xs (fun r : mX => (mU, mk r y)) pg_X2_keep 35 [.ref 19, mU] [.int z, .ref 19] (mk q2 y) (j z)) ?_ ?_
  · intro z
    revert z; intro w4
    refine mS_putx rfl rfl (by decide) rfl ?_
    refine mS_letx (fun x5 => ?_)
    refine mS_steps (pc' := 50) (ls' := [.ref 19, mU]) (st' := [.int (if (40 : Int32) < ((x5.1 19 0) + (1 : Int32)) then (40 : Int32) else ((x5.1 19 0) + (1 : Int32))), .ref 19]) (mem' := (mk x5 y)) 7 rfl ?_
    refine mS_putx rfl rfl (by decide) rfl ?_
    refine mS_letx (fun x6 => ?_)
    exact mS_retv ⟨_, _, _, _, _, rfl⟩ rfl
  intro j3 hj3
  refine mS_ic3 rfl (fun _ => ?_) (fun _ => ?_)
  · refine mS_steps (pc' := 35) (ls' := [.ref 19, .ref 14]) (st' := [.int (0 : Int32), .ref 19]) (mem' := (mk q2 y)) 1 rfl ?_
    refine mS_forget [.ref 19, mU] ⟨Or.inr rfl, Or.inl rfl, trivial⟩ ?_
    exact hj3 (0 : Int32)
  · refine mS_steps (pc' := 35) (ls' := [.ref 19, .ref 14]) (st' := [.int ((q2.1 19 1) + (1 : Int32)), .ref 19]) (mem' := (mk q2 y)) 5 rfl ?_
    refine mS_forget [.ref 19, mU] ⟨Or.inr rfl, Or.inl rfl, trivial⟩ ?_
    exact hj3 ((q2.1 19 1) + (1 : Int32))
def f_X10_join (p1 : Int32) (p2 : Int32) (x : mX) : Option (Int32 × mX) := (if (f_X10_isLink p1 x) = 0 then (some ((0 : Int32), x)) else (if (f_X10_has (x.1 14 3) p1) = p2 then (some ((0 : Int32), x)) else ((f_X2_keep x).bind fun q1 => (m_let (m_xs q1 14 3 ((q1.1 14 3) ^^^ ((1 : Int32) <<< (p1 &&& 31)))) fun x2 => (m_let (m_xs x2 0 6 (1 : Int32)) fun x3 => (some ((1 : Int32), x3)))))))
set_option maxRecDepth 20000 in
set_option maxHeartbeats 2000000 in
theorem f_X10_join_snd {fm : Value} {L : Nat} {xs : Nat → Int32} (p1 : Int32) (p2 : Int32) (x : mX) (y : mY) : mS fm L xs (fun r : (Int32 × mX) => (.int r.1, mk r.2 y)) pg_X10_join 0 (m_entry [.ref 0, .int p1, .int p2] 3) [] (mk x y) ((f_X10_join p1 p2 x)) := by
  unfold f_X10_join
  refine mS_steps (pc' := 0) (ls' := [.ref 0, .int p1, .int p2]) (st' := []) (mem' := (mk x y)) 0 rfl ?_
  refine mS_steps (pc' := 2) (ls' := [.ref 0, .int p1, .int p2]) (st' := [.int p1, .ref 0]) (mem' := (mk x y)) 2 rfl ?_
  refine mS_call (q := (f_X10_isLink p1 x)) 94 2 [.ref 0, .int p1] [] rfl rfl rfl ⟨_, _, _, rfl, rfl⟩ (Nat.le_of_ble_eq_true rfl) (Nat.le_of_ble_eq_true rfl) rfl (f_X10_isLink_snd p1 x y) ?_
  refine mS_steps (pc' := 5) (ls' := [.ref 0, .int p1, .int p2]) (st' := [.int (f_X10_isLink p1 x)]) (mem' := (mk x y)) 0 rfl ?_
  refine mS_if0 rfl (fun _ => ?_) (fun _ => ?_)
  · refine mS_steps (pc' := 24) (ls' := [.ref 0, .int p1, .int p2]) (st' := [.int (0 : Int32)]) (mem' := (mk x y)) 1 rfl ?_
    exact mS_reti ⟨_, _, _, _, _, rfl, (by decide)⟩ rfl
  · refine mS_steps (pc' := 16) (ls' := [.ref 0, .int p1, .int p2]) (st' := [.int p1, .int (x.1 14 3)]) (mem' := (mk x y)) 4 rfl ?_
    refine mS_call (q := (f_X10_has (x.1 14 3) p1)) 57 2 [.int (x.1 14 3), .int p1] [] rfl rfl rfl ⟨_, _, _, rfl, rfl⟩ (Nat.le_of_ble_eq_true rfl) (Nat.le_of_ble_eq_true rfl) rfl (f_X10_has_snd (x.1 14 3) p1 (mk x y)) ?_
    refine mS_steps (pc' := 20) (ls' := [.ref 0, .int p1, .int p2]) (st' := [.int p2, .int (f_X10_has (x.1 14 3) p1)]) (mem' := (mk x y)) 1 rfl ?_
    refine mS_ic1 rfl (fun _ => ?_) (fun _ => ?_)
    · refine mS_steps (pc' := 24) (ls' := [.ref 0, .int p1, .int p2]) (st' := [.int (0 : Int32)]) (mem' := (mk x y)) 1 rfl ?_
      exact mS_reti ⟨_, _, _, _, _, rfl, (by decide)⟩ rfl
    · refine mS_steps (pc' := 33) (ls' := [.ref 0, .int p1, .int p2]) (st' := [.ref 14, .ref 19]) (mem' := (mk x y)) 4 rfl ?_
      refine mS_bind (fun q1 hq1 => mS_call 95 2 [.ref 19, .ref 14] [] rfl rfl rfl ⟨_, _, _, rfl, rfl⟩ (Nat.le_of_ble_eq_true rfl) (Nat.le_of_ble_eq_true rfl) hq1 (f_X2_keep_snd  x y) ?_)
      refine mS_steps (pc' := 48) (ls' := [.ref 0, .int p1, .int p2]) (st' := [.int ((q1.1 14 3) ^^^ ((1 : Int32) <<< (p1 &&& 31))), .ref 14]) (mem' := (mk q1 y)) 8 rfl ?_
      refine mS_putx rfl rfl (by decide) rfl ?_
      refine mS_letx (fun x2 => ?_)
      refine mS_steps (pc' := 53) (ls' := [.ref 0, .int p1, .int p2]) (st' := [.int (1 : Int32), .ref 0]) (mem' := (mk x2 y)) 2 rfl ?_
      refine mS_putcx rfl rfl (by decide) rfl (by decide) ?_
      refine mS_letx (fun x3 => ?_)
      refine mS_steps (pc' := 57) (ls' := [.ref 0, .int p1, .int p2]) (st' := [.int (1 : Int32)]) (mem' := (mk x3 y)) 1 rfl ?_
      exact mS_reti ⟨_, _, _, _, _, rfl, (by decide)⟩ rfl
def f_X11_isLink (p1 : Int32) (y : mY) : Option Int32 := (if m_nr 1 (f_X11_in p1 (0 : Int32) ((y.1 289 4) - (1 : Int32))) = true then (some (f_X11_in p1 (0 : Int32) ((y.1 289 4) - (1 : Int32)))) else none)
set_option maxRecDepth 20000 in
set_option maxHeartbeats 2000000 in
theorem f_X11_isLink_snd {fm : Value} {L : Nat} {xs : Nat → Int32} (p1 : Int32) (y : mY) (x : mX) : mS fm L xs (fun r : Int32 => (.int r, (mk x y))) pg_X11_isLink 0 (m_entry [.ref 279, .int p1] 2) [] (mk x y) ((f_X11_isLink p1 y)) := by
  unfold f_X11_isLink
  refine mS_steps (pc' := 0) (ls' := [.ref 279, .int p1]) (st' := []) (mem' := (mk x y)) 0 rfl ?_
  refine mS_steps (pc' := 7) (ls' := [.ref 279, .int p1]) (st' := [.int (4 : Int32), .ref 289, .int (0 : Int32), .int p1]) (mem' := (mk x y)) 5 rfl ?_
  refine mS_aldc (b := 0) (n := 72) (c := 4) (z := (y.1 289 4)) rfl (by decide) rfl (by decide) (by decide) (by decide) rfl ?_
  refine mS_steps (pc' := 10) (ls' := [.ref 279, .int p1]) (st' := [.int ((y.1 289 4) - (1 : Int32)), .int (0 : Int32), .int p1]) (mem' := (mk x y)) 2 rfl ?_
  refine mS_call (q := (f_X11_in p1 (0 : Int32) ((y.1 289 4) - (1 : Int32)))) 83 3 [.int p1, .int (0 : Int32), .int ((y.1 289 4) - (1 : Int32))] [] rfl rfl rfl ⟨_, _, _, rfl, rfl⟩ (Nat.le_of_ble_eq_true rfl) (Nat.le_of_ble_eq_true rfl) rfl (f_X11_in_snd p1 (0 : Int32) ((y.1 289 4) - (1 : Int32)) (mk x y)) ?_
  refine mS_steps (pc' := 13) (ls' := [.ref 279, .int p1]) (st' := [.int (f_X11_in p1 (0 : Int32) ((y.1 289 4) - (1 : Int32)))]) (mem' := (mk x y)) 0 rfl ?_
  refine mS_guard (fun hz => ?_)
  exact mS_reti ⟨_, _, _, _, _, rfl, hz⟩ rfl
def f_X11_marks_L50 (a1 : Int32) : Nat → Int32 → mY → Option mY
  | 0, _, _ => none
  | n + 1, a2, y => (if (72 : Int32) ≤ a2 then (m_let (m_ys y 279 27 ((y.1 279 27) + (1 : Int32))) fun y3 => (some y3)) else (if m_in a2 72 = true then (if m_in (a1 + a2) 2880 = true then (m_let (m_ys y 290 (a1 + a2).toNatClampNeg (y.1 289 a2.toNatClampNeg)) fun y4 => (f_X11_marks_L50 a1 n (a2 + (1 : Int32)) y4)) else none) else none))
def f_X11_marks (y : mY) : Option mY := (m_jn (fun y2 => (f_X11_marks_L50 ((72 : Int32) * (((y2.1 279 26) + (y2.1 279 27)) - ((y2.1 279 26) + (y2.1 279 27)) / (40 : Int32) * (40 : Int32))) mF (0 : Int32) y2)) (fun j1 => if (y.1 279 27) = (40 : Int32) then (m_let (m_ys y 279 26 (((y.1 279 26) + (1 : Int32)) - ((y.1 279 26) + (1 : Int32)) / (40 : Int32) * (40 : Int32))) fun y5 => (m_let (m_ys y5 279 27 ((y5.1 279 27) - (1 : Int32))) fun y6 => (j1 y6))) else (j1 y)))
set_option maxRecDepth 20000 in
set_option maxHeartbeats 2000000 in
theorem f_X11_marks_L50_snd {fm : Value} {L : Nat} {xs : Nat → Int32} (a1 : Int32) (x : mX) : ∀ (n : Nat) (a2 : Int32) (y : mY), mS fm L xs (fun r : mY => (mU, mk x r)) pg_X11_marks 50 [.ref 279, .int a1, .int a2] [] (mk x y) (f_X11_marks_L50 a1 n a2 y) := by
  intro n
  induction n with
  | zero => intro a2 y; exact mS_none
  | succ n ih =>
    intro a2 y
    rw [f_X11_marks_L50]
    refine mS_steps (pc' := 53) (ls' := [.ref 279, .int a1, .int a2]) (st' := [.int (72 : Int32), .int a2]) (mem' := (mk x y)) 2 rfl ?_
    refine mS_ic3 rfl (fun _ => ?_) (fun _ => ?_)
    · refine mS_steps (pc' := 83) (ls' := [.ref 279, .int a1, .int a2]) (st' := [.int ((y.1 279 27) + (1 : Int32)), .ref 279]) (mem' := (mk x y)) 5 rfl ?_
      refine mS_puty rfl rfl (by decide) rfl ?_
      refine mS_lety (fun y3 => ?_)
      exact mS_retv ⟨_, _, _, _, _, rfl⟩ rfl
    · refine mS_steps (pc' := 68) (ls' := [.ref 279, .int a1, .int a2]) (st' := [.int a2, .ref 289, .int (a1 + a2), .ref 290]) (mem' := (mk x y)) 8 rfl ?_
      refine mS_ald (b := 0) (n := 72) (z := (y.1 289 a2.toNatClampNeg)) rfl (by decide) rfl (by decide) rfl (fun _ => ?_)
      refine mS_ast0y (n := 2880) rfl rfl (by decide) (fun _ => ?_)
      refine mS_lety (fun y4 => ?_)
      refine mS_steps (pc' := 50) (ls' := [.ref 279, .int a1, .int (a2 + (1 : Int32))]) (st' := []) (mem' := (mk x y4)) 2 rfl ?_
      exact ih (a2 + (1 : Int32)) y4
set_option maxRecDepth 20000 in
set_option maxHeartbeats 2000000 in
theorem f_X11_marks_snd {fm : Value} {L : Nat} {xs : Nat → Int32} (y : mY) (x : mX) : mS fm L xs (fun r : mY => (mU, mk x r)) pg_X11_marks 0 (m_entry [.ref 279] 3) [] (mk x y) ((f_X11_marks y)) := by
  unfold f_X11_marks
  refine mS_steps (pc' := 0) (ls' := [.ref 279, mU, mU]) (st' := []) (mem' := (mk x y)) 0 rfl ?_
  refine mS_steps (pc' := 6) (ls' := [.ref 279, mU, mU]) (st' := [.int (40 : Int32), .int (y.1 279 27)]) (mem' := (mk x y)) 3 rfl ?_
  refine mS_jn (fun j => ∀ z : mY, mS fm L xs (fun r : mY => (mU, mk x r)) pg_X11_marks 32 [.ref 279, mU, mU] [] (mk x z) (j z)) ?_ ?_
  · intro z
    revert z; intro y2
    refine mS_steps (pc' := 45) (ls' := [.ref 279, mU, mU]) (st' := [.int (40 : Int32), .int ((y2.1 279 26) + (y2.1 279 27)), .int (72 : Int32)]) (mem' := (mk x y2)) 7 rfl ?_
    refine mS_rem rfl (by decide) ?_
    refine mS_steps (pc' := 50) (ls' := [.ref 279, .int ((72 : Int32) * (((y2.1 279 26) + (y2.1 279 27)) - ((y2.1 279 26) + (y2.1 279 27)) / (40 : Int32) * (40 : Int32))), .int (0 : Int32)]) (st' := []) (mem' := (mk x y2)) 4 rfl ?_
    refine f_X11_marks_L50_snd ((72 : Int32) * (((y2.1 279 26) + (y2.1 279 27)) - ((y2.1 279 26) + (y2.1 279 27)) / (40 : Int32) * (40 : Int32))) x mF (0 : Int32) y2
  intro j1 hj1
  refine mS_ic1 rfl (fun _ => ?_) (fun _ => ?_)
  · refine mS_steps (pc' := 18) (ls' := [.ref 279, mU, mU]) (st' := [.int (40 : Int32), .int ((y.1 279 26) + (1 : Int32)), .ref 279]) (mem' := (mk x y)) 6 rfl ?_
    refine mS_rem rfl (by decide) ?_
    refine mS_puty rfl rfl (by decide) rfl ?_
    refine mS_lety (fun y5 => ?_)
    refine mS_steps (pc' := 29) (ls' := [.ref 279, mU, mU]) (st' := [.int ((y5.1 279 27) - (1 : Int32)), .ref 279]) (mem' := (mk x y5)) 5 rfl ?_
    refine mS_puty rfl rfl (by decide) rfl ?_
    refine mS_lety (fun y6 => ?_)
    exact hj1 y6
  · exact hj1 y
def f_X11_join (p1 : Int32) (p2 : Int32) (y : mY) : Option (Int32 × mY) := ((f_X11_isLink p1 y).bind fun q1 => (if q1 = 0 then (some ((0 : Int32), y)) else (if (f_X11_has (y.1 289 1) p1) = p2 then (some ((0 : Int32), y)) else ((f_X11_marks y).bind fun q2 => (m_let (m_ys q2 289 1 ((q2.1 289 1) ^^^ ((1 : Int32) <<< (p1 &&& 31)))) fun y3 => (some ((1 : Int32), y3)))))))
set_option maxRecDepth 20000 in
set_option maxHeartbeats 2000000 in
theorem f_X11_join_snd {fm : Value} {L : Nat} {xs : Nat → Int32} (p1 : Int32) (p2 : Int32) (y : mY) (x : mX) : mS fm L xs (fun r : (Int32 × mY) => (.int r.1, mk x r.2)) pg_X11_join 0 (m_entry [.ref 279, .int p1, .int p2] 3) [] (mk x y) ((f_X11_join p1 p2 y)) := by
  unfold f_X11_join
  refine mS_steps (pc' := 0) (ls' := [.ref 279, .int p1, .int p2]) (st' := []) (mem' := (mk x y)) 0 rfl ?_
  refine mS_steps (pc' := 2) (ls' := [.ref 279, .int p1, .int p2]) (st' := [.int p1, .ref 279]) (mem' := (mk x y)) 2 rfl ?_
  refine mS_bind (fun q1 hq1 => mS_call 97 2 [.ref 279, .int p1] [] rfl rfl rfl ⟨_, _, _, rfl, rfl⟩ (Nat.le_of_ble_eq_true rfl) (Nat.le_of_ble_eq_true rfl) hq1 (f_X11_isLink_snd p1 y x) ?_)
  refine mS_steps (pc' := 5) (ls' := [.ref 279, .int p1, .int p2]) (st' := [.int q1]) (mem' := (mk x y)) 0 rfl ?_
  refine mS_if0 rfl (fun _ => ?_) (fun _ => ?_)
  · refine mS_steps (pc' := 23) (ls' := [.ref 279, .int p1, .int p2]) (st' := [.int (0 : Int32)]) (mem' := (mk x y)) 1 rfl ?_
    exact mS_reti ⟨_, _, _, _, _, rfl, (by decide)⟩ rfl
  · refine mS_steps (pc' := 13) (ls' := [.ref 279, .int p1, .int p2]) (st' := [.int (1 : Int32), .ref 289]) (mem' := (mk x y)) 3 rfl ?_
    refine mS_aldc (b := 0) (n := 72) (c := 1) (z := (y.1 289 1)) rfl (by decide) rfl (by decide) (by decide) (by decide) rfl ?_
    refine mS_steps (pc' := 15) (ls' := [.ref 279, .int p1, .int p2]) (st' := [.int p1, .int (y.1 289 1)]) (mem' := (mk x y)) 1 rfl ?_
    refine mS_call (q := (f_X11_has (y.1 289 1) p1)) 87 2 [.int (y.1 289 1), .int p1] [] rfl rfl rfl ⟨_, _, _, rfl, rfl⟩ (Nat.le_of_ble_eq_true rfl) (Nat.le_of_ble_eq_true rfl) rfl (f_X11_has_snd (y.1 289 1) p1 (mk x y)) ?_
    refine mS_steps (pc' := 19) (ls' := [.ref 279, .int p1, .int p2]) (st' := [.int p2, .int (f_X11_has (y.1 289 1) p1)]) (mem' := (mk x y)) 1 rfl ?_
    refine mS_ic1 rfl (fun _ => ?_) (fun _ => ?_)
    · refine mS_steps (pc' := 23) (ls' := [.ref 279, .int p1, .int p2]) (st' := [.int (0 : Int32)]) (mem' := (mk x y)) 1 rfl ?_
      exact mS_reti ⟨_, _, _, _, _, rfl, (by decide)⟩ rfl
    · refine mS_steps (pc' := 25) (ls' := [.ref 279, .int p1, .int p2]) (st' := [.ref 279]) (mem' := (mk x y)) 1 rfl ?_
      refine mS_bind (fun q2 hq2 => mS_call 98 1 [.ref 279] [] rfl rfl rfl ⟨_, _, _, rfl, rfl⟩ (Nat.le_of_ble_eq_true rfl) (Nat.le_of_ble_eq_true rfl) hq2 (f_X11_marks_snd  y x) ?_)
      refine mS_steps (pc' := 34) (ls' := [.ref 279, .int p1, .int p2]) (st' := [.int (1 : Int32), .ref 289, .int (1 : Int32), .ref 289]) (mem' := (mk x q2)) 4 rfl ?_
      refine mS_aldc (b := 0) (n := 72) (c := 1) (z := (q2.1 289 1)) rfl (by decide) rfl (by decide) (by decide) (by decide) rfl ?_
      refine mS_steps (pc' := 39) (ls' := [.ref 279, .int p1, .int p2]) (st' := [.int ((q2.1 289 1) ^^^ ((1 : Int32) <<< (p1 &&& 31))), .int (1 : Int32), .ref 289]) (mem' := (mk x q2)) 4 rfl ?_
      refine mS_ast0yc (n := 72) (c := 1) rfl rfl (by decide) (by decide) (by decide) ?_
      refine mS_lety (fun y3 => ?_)
      refine mS_steps (pc' := 41) (ls' := [.ref 279, .int p1, .int p2]) (st' := [.int (1 : Int32)]) (mem' := (mk x y3)) 1 rfl ?_
      exact mS_reti ⟨_, _, _, _, _, rfl, (by decide)⟩ rfl
def f_X10_cost (p1 : Int32) (p2 : Int32) (x : mX) : Option (Int32 × mX) := (if (f_X10_isLink p1 x) = 0 then (some ((0 : Int32), x)) else (if (f_X10_isCost p2) = 0 then (some ((0 : Int32), x)) else (if m_in p1 16 = true then (if (x.1 17 p1.toNatClampNeg) = p2 then (some ((0 : Int32), x)) else ((f_X2_keep x).bind fun q1 => (if m_in p1 16 = true then (m_let (m_xs q1 17 p1.toNatClampNeg p2) fun x2 => (some ((1 : Int32), x2))) else none))) else none)))
set_option maxRecDepth 20000 in
set_option maxHeartbeats 2000000 in
theorem f_X10_cost_snd {fm : Value} {L : Nat} {xs : Nat → Int32} (p1 : Int32) (p2 : Int32) (x : mX) (y : mY) : mS fm L xs (fun r : (Int32 × mX) => (.int r.1, mk r.2 y)) pg_X10_cost 0 (m_entry [.ref 0, .int p1, .int p2] 3) [] (mk x y) ((f_X10_cost p1 p2 x)) := by
  unfold f_X10_cost
  refine mS_steps (pc' := 0) (ls' := [.ref 0, .int p1, .int p2]) (st' := []) (mem' := (mk x y)) 0 rfl ?_
  refine mS_steps (pc' := 2) (ls' := [.ref 0, .int p1, .int p2]) (st' := [.int p1, .ref 0]) (mem' := (mk x y)) 2 rfl ?_
  refine mS_call (q := (f_X10_isLink p1 x)) 94 2 [.ref 0, .int p1] [] rfl rfl rfl ⟨_, _, _, rfl, rfl⟩ (Nat.le_of_ble_eq_true rfl) (Nat.le_of_ble_eq_true rfl) rfl (f_X10_isLink_snd p1 x y) ?_
  refine mS_steps (pc' := 5) (ls' := [.ref 0, .int p1, .int p2]) (st' := [.int (f_X10_isLink p1 x)]) (mem' := (mk x y)) 0 rfl ?_
  refine mS_if0 rfl (fun _ => ?_) (fun _ => ?_)
  · refine mS_steps (pc' := 29) (ls' := [.ref 0, .int p1, .int p2]) (st' := [.int (0 : Int32)]) (mem' := (mk x y)) 1 rfl ?_
    exact mS_reti ⟨_, _, _, _, _, rfl, (by decide)⟩ rfl
  · refine mS_steps (pc' := 9) (ls' := [.ref 0, .int p1, .int p2]) (st' := [.int p2]) (mem' := (mk x y)) 1 rfl ?_
    refine mS_call (q := (f_X10_isCost p2)) 53 1 [.int p2] [] rfl rfl rfl ⟨_, _, _, rfl, rfl⟩ (Nat.le_of_ble_eq_true rfl) (Nat.le_of_ble_eq_true rfl) rfl (f_X10_isCost_snd p2 (mk x y)) ?_
    refine mS_steps (pc' := 12) (ls' := [.ref 0, .int p1, .int p2]) (st' := [.int (f_X10_isCost p2)]) (mem' := (mk x y)) 0 rfl ?_
    refine mS_if0 rfl (fun _ => ?_) (fun _ => ?_)
    · refine mS_steps (pc' := 29) (ls' := [.ref 0, .int p1, .int p2]) (st' := [.int (0 : Int32)]) (mem' := (mk x y)) 1 rfl ?_
      exact mS_reti ⟨_, _, _, _, _, rfl, (by decide)⟩ rfl
    · refine mS_steps (pc' := 23) (ls' := [.ref 0, .int p1, .int p2]) (st' := [.int p1, .ref 17]) (mem' := (mk x y)) 4 rfl ?_
      refine mS_ald (b := 0) (n := 16) (z := (x.1 17 p1.toNatClampNeg)) rfl (by decide) rfl (by decide) rfl (fun _ => ?_)
      refine mS_steps (pc' := 25) (ls' := [.ref 0, .int p1, .int p2]) (st' := [.int p2, .int (x.1 17 p1.toNatClampNeg)]) (mem' := (mk x y)) 1 rfl ?_
      refine mS_ic1 rfl (fun _ => ?_) (fun _ => ?_)
      · refine mS_steps (pc' := 29) (ls' := [.ref 0, .int p1, .int p2]) (st' := [.int (0 : Int32)]) (mem' := (mk x y)) 1 rfl ?_
        exact mS_reti ⟨_, _, _, _, _, rfl, (by decide)⟩ rfl
      · refine mS_steps (pc' := 38) (ls' := [.ref 0, .int p1, .int p2]) (st' := [.ref 14, .ref 19]) (mem' := (mk x y)) 4 rfl ?_
        refine mS_bind (fun q1 hq1 => mS_call 95 2 [.ref 19, .ref 14] [] rfl rfl rfl ⟨_, _, _, rfl, rfl⟩ (Nat.le_of_ble_eq_true rfl) (Nat.le_of_ble_eq_true rfl) hq1 (f_X2_keep_snd  x y) ?_)
        refine mS_steps (pc' := 50) (ls' := [.ref 0, .int p1, .int p2]) (st' := [.int p2, .int p1, .ref 17]) (mem' := (mk q1 y)) 5 rfl ?_
        refine mS_ast0x (n := 16) rfl rfl (by decide) (fun _ => ?_)
        refine mS_letx (fun x2 => ?_)
        refine mS_steps (pc' := 52) (ls' := [.ref 0, .int p1, .int p2]) (st' := [.int (1 : Int32)]) (mem' := (mk x2 y)) 1 rfl ?_
        exact mS_reti ⟨_, _, _, _, _, rfl, (by decide)⟩ rfl
def f_X11_cost (p1 : Int32) (p2 : Int32) (y : mY) : Option (Int32 × mY) := ((f_X11_isLink p1 y).bind fun q1 => (if q1 = 0 then (some ((0 : Int32), y)) else (if (f_X11_in p2 (1 : Int32) (99 : Int32)) = 0 then (some ((0 : Int32), y)) else (if m_in ((40 : Int32) + p1) 72 = true then (if (y.1 289 ((40 : Int32) + p1).toNatClampNeg) = p2 then (some ((0 : Int32), y)) else ((f_X11_marks y).bind fun q2 => (if m_in ((40 : Int32) + p1) 72 = true then (m_let (m_ys q2 289 ((40 : Int32) + p1).toNatClampNeg p2) fun y3 => (some ((1 : Int32), y3))) else none))) else none))))
set_option maxRecDepth 20000 in
set_option maxHeartbeats 2000000 in
theorem f_X11_cost_snd {fm : Value} {L : Nat} {xs : Nat → Int32} (p1 : Int32) (p2 : Int32) (y : mY) (x : mX) : mS fm L xs (fun r : (Int32 × mY) => (.int r.1, mk x r.2)) pg_X11_cost 0 (m_entry [.ref 279, .int p1, .int p2] 3) [] (mk x y) ((f_X11_cost p1 p2 y)) := by
  unfold f_X11_cost
  refine mS_steps (pc' := 0) (ls' := [.ref 279, .int p1, .int p2]) (st' := []) (mem' := (mk x y)) 0 rfl ?_
  refine mS_steps (pc' := 2) (ls' := [.ref 279, .int p1, .int p2]) (st' := [.int p1, .ref 279]) (mem' := (mk x y)) 2 rfl ?_
  refine mS_bind (fun q1 hq1 => mS_call 97 2 [.ref 279, .int p1] [] rfl rfl rfl ⟨_, _, _, rfl, rfl⟩ (Nat.le_of_ble_eq_true rfl) (Nat.le_of_ble_eq_true rfl) hq1 (f_X11_isLink_snd p1 y x) ?_)
  refine mS_steps (pc' := 5) (ls' := [.ref 279, .int p1, .int p2]) (st' := [.int q1]) (mem' := (mk x y)) 0 rfl ?_
  refine mS_if0 rfl (fun _ => ?_) (fun _ => ?_)
  · refine mS_steps (pc' := 32) (ls' := [.ref 279, .int p1, .int p2]) (st' := [.int (0 : Int32)]) (mem' := (mk x y)) 1 rfl ?_
    exact mS_reti ⟨_, _, _, _, _, rfl, (by decide)⟩ rfl
  · refine mS_steps (pc' := 12) (ls' := [.ref 279, .int p1, .int p2]) (st' := [.int (99 : Int32), .int (1 : Int32), .int p2]) (mem' := (mk x y)) 3 rfl ?_
    refine mS_call (q := (f_X11_in p2 (1 : Int32) (99 : Int32))) 83 3 [.int p2, .int (1 : Int32), .int (99 : Int32)] [] rfl rfl rfl ⟨_, _, _, rfl, rfl⟩ (Nat.le_of_ble_eq_true rfl) (Nat.le_of_ble_eq_true rfl) rfl (f_X11_in_snd p2 (1 : Int32) (99 : Int32) (mk x y)) ?_
    refine mS_steps (pc' := 15) (ls' := [.ref 279, .int p1, .int p2]) (st' := [.int (f_X11_in p2 (1 : Int32) (99 : Int32))]) (mem' := (mk x y)) 0 rfl ?_
    refine mS_if0 rfl (fun _ => ?_) (fun _ => ?_)
    · refine mS_steps (pc' := 32) (ls' := [.ref 279, .int p1, .int p2]) (st' := [.int (0 : Int32)]) (mem' := (mk x y)) 1 rfl ?_
      exact mS_reti ⟨_, _, _, _, _, rfl, (by decide)⟩ rfl
    · refine mS_steps (pc' := 26) (ls' := [.ref 279, .int p1, .int p2]) (st' := [.int ((40 : Int32) + p1), .ref 289]) (mem' := (mk x y)) 5 rfl ?_
      refine mS_ald (b := 0) (n := 72) (z := (y.1 289 ((40 : Int32) + p1).toNatClampNeg)) rfl (by decide) rfl (by decide) rfl (fun _ => ?_)
      refine mS_steps (pc' := 28) (ls' := [.ref 279, .int p1, .int p2]) (st' := [.int p2, .int (y.1 289 ((40 : Int32) + p1).toNatClampNeg)]) (mem' := (mk x y)) 1 rfl ?_
      refine mS_ic1 rfl (fun _ => ?_) (fun _ => ?_)
      · refine mS_steps (pc' := 32) (ls' := [.ref 279, .int p1, .int p2]) (st' := [.int (0 : Int32)]) (mem' := (mk x y)) 1 rfl ?_
        exact mS_reti ⟨_, _, _, _, _, rfl, (by decide)⟩ rfl
      · refine mS_steps (pc' := 34) (ls' := [.ref 279, .int p1, .int p2]) (st' := [.ref 279]) (mem' := (mk x y)) 1 rfl ?_
        refine mS_bind (fun q2 hq2 => mS_call 98 1 [.ref 279] [] rfl rfl rfl ⟨_, _, _, rfl, rfl⟩ (Nat.le_of_ble_eq_true rfl) (Nat.le_of_ble_eq_true rfl) hq2 (f_X11_marks_snd  y x) ?_)
        refine mS_steps (pc' := 46) (ls' := [.ref 279, .int p1, .int p2]) (st' := [.int p2, .int ((40 : Int32) + p1), .ref 289]) (mem' := (mk x q2)) 6 rfl ?_
        refine mS_ast0y (n := 72) rfl rfl (by decide) (fun _ => ?_)
        refine mS_lety (fun y3 => ?_)
        refine mS_steps (pc' := 48) (ls' := [.ref 279, .int p1, .int p2]) (st' := [.int (1 : Int32)]) (mem' := (mk x y3)) 1 rfl ?_
        exact mS_reti ⟨_, _, _, _, _, rfl, (by decide)⟩ rfl
def f_X10_isPost (p1 : Int32) (x : mX) : Int32 := (if p1 < 0 then (0 : Int32) else (if (x.1 14 0) ≤ p1 then (0 : Int32) else (1 : Int32)))
set_option maxRecDepth 20000 in
set_option maxHeartbeats 2000000 in
theorem f_X10_isPost_snd {fm : Value} {L : Nat} {xs : Nat → Int32} (p1 : Int32) (x : mX) (y : mY) : mS fm L xs (fun r : Int32 => (.int r, (mk x y))) pg_X10_isPost 0 (m_entry [.ref 0, .int p1] 2) [] (mk x y) (some (f_X10_isPost p1 x)) := by
  unfold f_X10_isPost
  refine mS_steps (pc' := 0) (ls' := [.ref 0, .int p1]) (st' := []) (mem' := (mk x y)) 0 rfl ?_
  refine mS_steps (pc' := 1) (ls' := [.ref 0, .int p1]) (st' := [.int p1]) (mem' := (mk x y)) 1 rfl ?_
  refine mS_if2T rfl (fun _ => ?_) (fun _ => ?_)
  · refine mS_steps (pc' := 20) (ls' := [.ref 0, .int p1]) (st' := [.int (0 : Int32)]) (mem' := (mk x y)) 1 rfl ?_
    exact mS_reti ⟨_, _, _, _, _, rfl, (by decide)⟩ rfl
  · refine mS_steps (pc' := 12) (ls' := [.ref 0, .int p1]) (st' := [.int (x.1 14 0), .int p1]) (mem' := (mk x y)) 4 rfl ?_
    refine mS_ic3T rfl (fun _ => ?_) (fun _ => ?_)
    · refine mS_steps (pc' := 20) (ls' := [.ref 0, .int p1]) (st' := [.int (0 : Int32)]) (mem' := (mk x y)) 1 rfl ?_
      exact mS_reti ⟨_, _, _, _, _, rfl, (by decide)⟩ rfl
    · refine mS_steps (pc' := 20) (ls' := [.ref 0, .int p1]) (st' := [.int (1 : Int32)]) (mem' := (mk x y)) 2 rfl ?_
      exact mS_reti ⟨_, _, _, _, _, rfl, (by decide)⟩ rfl
def f_X10_power (p1 : Int32) (p2 : Int32) (x : mX) : Option (Int32 × mX) := (if (f_X10_isPost p1 x) = 0 then (some ((0 : Int32), x)) else (if (f_X10_has (x.1 14 2) p1) = p2 then (some ((0 : Int32), x)) else ((f_X2_keep x).bind fun q1 => (m_let (m_xs q1 14 2 ((q1.1 14 2) ^^^ ((1 : Int32) <<< (p1 &&& 31)))) fun x2 => (m_let (m_xs x2 0 6 (1 : Int32)) fun x3 => (some ((1 : Int32), x3)))))))
set_option maxRecDepth 20000 in
set_option maxHeartbeats 2000000 in
theorem f_X10_power_snd {fm : Value} {L : Nat} {xs : Nat → Int32} (p1 : Int32) (p2 : Int32) (x : mX) (y : mY) : mS fm L xs (fun r : (Int32 × mX) => (.int r.1, mk r.2 y)) pg_X10_power 0 (m_entry [.ref 0, .int p1, .int p2] 3) [] (mk x y) ((f_X10_power p1 p2 x)) := by
  unfold f_X10_power
  refine mS_steps (pc' := 0) (ls' := [.ref 0, .int p1, .int p2]) (st' := []) (mem' := (mk x y)) 0 rfl ?_
  refine mS_steps (pc' := 2) (ls' := [.ref 0, .int p1, .int p2]) (st' := [.int p1, .ref 0]) (mem' := (mk x y)) 2 rfl ?_
  refine mS_call (q := (f_X10_isPost p1 x)) 102 2 [.ref 0, .int p1] [] rfl rfl rfl ⟨_, _, _, rfl, rfl⟩ (Nat.le_of_ble_eq_true rfl) (Nat.le_of_ble_eq_true rfl) rfl (f_X10_isPost_snd p1 x y) ?_
  refine mS_steps (pc' := 5) (ls' := [.ref 0, .int p1, .int p2]) (st' := [.int (f_X10_isPost p1 x)]) (mem' := (mk x y)) 0 rfl ?_
  refine mS_if0 rfl (fun _ => ?_) (fun _ => ?_)
  · refine mS_steps (pc' := 24) (ls' := [.ref 0, .int p1, .int p2]) (st' := [.int (0 : Int32)]) (mem' := (mk x y)) 1 rfl ?_
    exact mS_reti ⟨_, _, _, _, _, rfl, (by decide)⟩ rfl
  · refine mS_steps (pc' := 16) (ls' := [.ref 0, .int p1, .int p2]) (st' := [.int p1, .int (x.1 14 2)]) (mem' := (mk x y)) 4 rfl ?_
    refine mS_call (q := (f_X10_has (x.1 14 2) p1)) 57 2 [.int (x.1 14 2), .int p1] [] rfl rfl rfl ⟨_, _, _, rfl, rfl⟩ (Nat.le_of_ble_eq_true rfl) (Nat.le_of_ble_eq_true rfl) rfl (f_X10_has_snd (x.1 14 2) p1 (mk x y)) ?_
    refine mS_steps (pc' := 20) (ls' := [.ref 0, .int p1, .int p2]) (st' := [.int p2, .int (f_X10_has (x.1 14 2) p1)]) (mem' := (mk x y)) 1 rfl ?_
    refine mS_ic1 rfl (fun _ => ?_) (fun _ => ?_)
    · refine mS_steps (pc' := 24) (ls' := [.ref 0, .int p1, .int p2]) (st' := [.int (0 : Int32)]) (mem' := (mk x y)) 1 rfl ?_
      exact mS_reti ⟨_, _, _, _, _, rfl, (by decide)⟩ rfl
    · refine mS_steps (pc' := 33) (ls' := [.ref 0, .int p1, .int p2]) (st' := [.ref 14, .ref 19]) (mem' := (mk x y)) 4 rfl ?_
      refine mS_bind (fun q1 hq1 => mS_call 95 2 [.ref 19, .ref 14] [] rfl rfl rfl ⟨_, _, _, rfl, rfl⟩ (Nat.le_of_ble_eq_true rfl) (Nat.le_of_ble_eq_true rfl) hq1 (f_X2_keep_snd  x y) ?_)
      refine mS_steps (pc' := 48) (ls' := [.ref 0, .int p1, .int p2]) (st' := [.int ((q1.1 14 2) ^^^ ((1 : Int32) <<< (p1 &&& 31))), .ref 14]) (mem' := (mk q1 y)) 8 rfl ?_
      refine mS_putx rfl rfl (by decide) rfl ?_
      refine mS_letx (fun x2 => ?_)
      refine mS_steps (pc' := 53) (ls' := [.ref 0, .int p1, .int p2]) (st' := [.int (1 : Int32), .ref 0]) (mem' := (mk x2 y)) 2 rfl ?_
      refine mS_putcx rfl rfl (by decide) rfl (by decide) ?_
      refine mS_letx (fun x3 => ?_)
      refine mS_steps (pc' := 57) (ls' := [.ref 0, .int p1, .int p2]) (st' := [.int (1 : Int32)]) (mem' := (mk x3 y)) 1 rfl ?_
      exact mS_reti ⟨_, _, _, _, _, rfl, (by decide)⟩ rfl
def f_X11_isPost (p1 : Int32) (y : mY) : Option Int32 := (if m_nr 1 (f_X11_in p1 (0 : Int32) ((y.1 279 17) - (1 : Int32))) = true then (some (f_X11_in p1 (0 : Int32) ((y.1 279 17) - (1 : Int32)))) else none)
set_option maxRecDepth 20000 in
set_option maxHeartbeats 2000000 in
theorem f_X11_isPost_snd {fm : Value} {L : Nat} {xs : Nat → Int32} (p1 : Int32) (y : mY) (x : mX) : mS fm L xs (fun r : Int32 => (.int r, (mk x y))) pg_X11_isPost 0 (m_entry [.ref 279, .int p1] 2) [] (mk x y) ((f_X11_isPost p1 y)) := by
  unfold f_X11_isPost
  refine mS_steps (pc' := 0) (ls' := [.ref 279, .int p1]) (st' := []) (mem' := (mk x y)) 0 rfl ?_
  refine mS_steps (pc' := 8) (ls' := [.ref 279, .int p1]) (st' := [.int ((y.1 279 17) - (1 : Int32)), .int (0 : Int32), .int p1]) (mem' := (mk x y)) 6 rfl ?_
  refine mS_call (q := (f_X11_in p1 (0 : Int32) ((y.1 279 17) - (1 : Int32)))) 83 3 [.int p1, .int (0 : Int32), .int ((y.1 279 17) - (1 : Int32))] [] rfl rfl rfl ⟨_, _, _, rfl, rfl⟩ (Nat.le_of_ble_eq_true rfl) (Nat.le_of_ble_eq_true rfl) rfl (f_X11_in_snd p1 (0 : Int32) ((y.1 279 17) - (1 : Int32)) (mk x y)) ?_
  refine mS_steps (pc' := 11) (ls' := [.ref 279, .int p1]) (st' := [.int (f_X11_in p1 (0 : Int32) ((y.1 279 17) - (1 : Int32)))]) (mem' := (mk x y)) 0 rfl ?_
  refine mS_guard (fun hz => ?_)
  exact mS_reti ⟨_, _, _, _, _, rfl, hz⟩ rfl
def f_X11_power (p1 : Int32) (p2 : Int32) (y : mY) : Option (Int32 × mY) := ((f_X11_isPost p1 y).bind fun q1 => (if q1 = 0 then (some ((0 : Int32), y)) else ((f_X11_isOn p1 y).bind fun q2 => (if q2 = p2 then (some ((0 : Int32), y)) else ((f_X11_marks y).bind fun q3 => (m_let (m_ys q3 289 0 ((q3.1 289 0) ^^^ ((1 : Int32) <<< (p1 &&& 31)))) fun y4 => (some ((1 : Int32), y4))))))))
set_option maxRecDepth 20000 in
set_option maxHeartbeats 2000000 in
theorem f_X11_power_snd {fm : Value} {L : Nat} {xs : Nat → Int32} (p1 : Int32) (p2 : Int32) (y : mY) (x : mX) : mS fm L xs (fun r : (Int32 × mY) => (.int r.1, mk x r.2)) pg_X11_power 0 (m_entry [.ref 279, .int p1, .int p2] 3) [] (mk x y) ((f_X11_power p1 p2 y)) := by
  unfold f_X11_power
  refine mS_steps (pc' := 0) (ls' := [.ref 279, .int p1, .int p2]) (st' := []) (mem' := (mk x y)) 0 rfl ?_
  refine mS_steps (pc' := 2) (ls' := [.ref 279, .int p1, .int p2]) (st' := [.int p1, .ref 279]) (mem' := (mk x y)) 2 rfl ?_
  refine mS_bind (fun q1 hq1 => mS_call 104 2 [.ref 279, .int p1] [] rfl rfl rfl ⟨_, _, _, rfl, rfl⟩ (Nat.le_of_ble_eq_true rfl) (Nat.le_of_ble_eq_true rfl) hq1 (f_X11_isPost_snd p1 y x) ?_)
  refine mS_steps (pc' := 5) (ls' := [.ref 279, .int p1, .int p2]) (st' := [.int q1]) (mem' := (mk x y)) 0 rfl ?_
  refine mS_if0 rfl (fun _ => ?_) (fun _ => ?_)
  · refine mS_steps (pc' := 18) (ls' := [.ref 279, .int p1, .int p2]) (st' := [.int (0 : Int32)]) (mem' := (mk x y)) 1 rfl ?_
    exact mS_reti ⟨_, _, _, _, _, rfl, (by decide)⟩ rfl
  · refine mS_steps (pc' := 10) (ls' := [.ref 279, .int p1, .int p2]) (st' := [.int p1, .ref 279]) (mem' := (mk x y)) 2 rfl ?_
    refine mS_bind (fun q2 hq2 => mS_call 88 2 [.ref 279, .int p1] [] rfl rfl rfl ⟨_, _, _, rfl, rfl⟩ (Nat.le_of_ble_eq_true rfl) (Nat.le_of_ble_eq_true rfl) hq2 (f_X11_isOn_snd p1 y x) ?_)
    refine mS_steps (pc' := 14) (ls' := [.ref 279, .int p1, .int p2]) (st' := [.int p2, .int q2]) (mem' := (mk x y)) 1 rfl ?_
    refine mS_ic1 rfl (fun _ => ?_) (fun _ => ?_)
    · refine mS_steps (pc' := 18) (ls' := [.ref 279, .int p1, .int p2]) (st' := [.int (0 : Int32)]) (mem' := (mk x y)) 1 rfl ?_
      exact mS_reti ⟨_, _, _, _, _, rfl, (by decide)⟩ rfl
    · refine mS_steps (pc' := 20) (ls' := [.ref 279, .int p1, .int p2]) (st' := [.ref 279]) (mem' := (mk x y)) 1 rfl ?_
      refine mS_bind (fun q3 hq3 => mS_call 98 1 [.ref 279] [] rfl rfl rfl ⟨_, _, _, rfl, rfl⟩ (Nat.le_of_ble_eq_true rfl) (Nat.le_of_ble_eq_true rfl) hq3 (f_X11_marks_snd  y x) ?_)
      refine mS_steps (pc' := 29) (ls' := [.ref 279, .int p1, .int p2]) (st' := [.int (0 : Int32), .ref 289, .int (0 : Int32), .ref 289]) (mem' := (mk x q3)) 4 rfl ?_
      refine mS_aldc (b := 0) (n := 72) (c := 0) (z := (q3.1 289 0)) rfl (by decide) rfl (by decide) (by decide) (by decide) rfl ?_
      refine mS_steps (pc' := 34) (ls' := [.ref 279, .int p1, .int p2]) (st' := [.int ((q3.1 289 0) ^^^ ((1 : Int32) <<< (p1 &&& 31))), .int (0 : Int32), .ref 289]) (mem' := (mk x q3)) 4 rfl ?_
      refine mS_ast0yc (n := 72) (c := 0) rfl rfl (by decide) (by decide) (by decide) ?_
      refine mS_lety (fun y4 => ?_)
      refine mS_steps (pc' := 36) (ls' := [.ref 279, .int p1, .int p2]) (st' := [.int (1 : Int32)]) (mem' := (mk x y4)) 1 rfl ?_
      exact mS_reti ⟨_, _, _, _, _, rfl, (by decide)⟩ rfl
def f_X10_lay (p1 : Int32) (p2 : Int32) (p3 : Int32) (x : mX) : Option (Int32 × mX) := (if (f_X10_isPost p1 x) = 0 then (some ((-1 : Int32), x)) else (if (f_X10_isPost p2 x) = 0 then (some ((-1 : Int32), x)) else (if p1 = p2 then (some ((-1 : Int32), x)) else (if (f_X10_isCost p3) = 0 then (some ((-1 : Int32), x)) else (if (16 : Int32) ≤ (x.1 14 1) then (some ((-1 : Int32), x)) else ((f_X6_between 14 p1 p2 x).bind fun q1 => (if q1 = (-1 : Int32) then ((f_X2_keep x).bind fun q2 => ((f_X6_add 14 p1 p2 p3 q2).bind fun q3 => (m_let (m_xs q3 0 6 (1 : Int32)) fun x4 => (some (((x4.1 14 1) - (1 : Int32)), x4))))) else (some ((-1 : Int32), x)))))))))
set_option maxRecDepth 20000 in
set_option maxHeartbeats 2000000 in
theorem f_X10_lay_snd {fm : Value} {L : Nat} {xs : Nat → Int32} (p1 : Int32) (p2 : Int32) (p3 : Int32) (x : mX) (y : mY) : mS fm L xs (fun r : (Int32 × mX) => (.int r.1, mk r.2 y)) pg_X10_lay 0 (m_entry [.ref 0, .int p1, .int p2, .int p3] 4) [] (mk x y) ((f_X10_lay p1 p2 p3 x)) := by
  unfold f_X10_lay
  refine mS_steps (pc' := 0) (ls' := [.ref 0, .int p1, .int p2, .int p3]) (st' := []) (mem' := (mk x y)) 0 rfl ?_
  refine mS_steps (pc' := 2) (ls' := [.ref 0, .int p1, .int p2, .int p3]) (st' := [.int p1, .ref 0]) (mem' := (mk x y)) 2 rfl ?_
  refine mS_call (q := (f_X10_isPost p1 x)) 102 2 [.ref 0, .int p1] [] rfl rfl rfl ⟨_, _, _, rfl, rfl⟩ (Nat.le_of_ble_eq_true rfl) (Nat.le_of_ble_eq_true rfl) rfl (f_X10_isPost_snd p1 x y) ?_
  refine mS_steps (pc' := 5) (ls' := [.ref 0, .int p1, .int p2, .int p3]) (st' := [.int (f_X10_isPost p1 x)]) (mem' := (mk x y)) 0 rfl ?_
  refine mS_if0 rfl (fun _ => ?_) (fun _ => ?_)
  · refine mS_steps (pc' := 29) (ls' := [.ref 0, .int p1, .int p2, .int p3]) (st' := [.int (-1 : Int32)]) (mem' := (mk x y)) 1 rfl ?_
    exact mS_reti ⟨_, _, _, _, _, rfl, rfl⟩ rfl
  · refine mS_steps (pc' := 10) (ls' := [.ref 0, .int p1, .int p2, .int p3]) (st' := [.int p2, .ref 0]) (mem' := (mk x y)) 2 rfl ?_
    refine mS_call (q := (f_X10_isPost p2 x)) 102 2 [.ref 0, .int p2] [] rfl rfl rfl ⟨_, _, _, rfl, rfl⟩ (Nat.le_of_ble_eq_true rfl) (Nat.le_of_ble_eq_true rfl) rfl (f_X10_isPost_snd p2 x y) ?_
    refine mS_steps (pc' := 13) (ls' := [.ref 0, .int p1, .int p2, .int p3]) (st' := [.int (f_X10_isPost p2 x)]) (mem' := (mk x y)) 0 rfl ?_
    refine mS_if0 rfl (fun _ => ?_) (fun _ => ?_)
    · refine mS_steps (pc' := 29) (ls' := [.ref 0, .int p1, .int p2, .int p3]) (st' := [.int (-1 : Int32)]) (mem' := (mk x y)) 1 rfl ?_
      exact mS_reti ⟨_, _, _, _, _, rfl, rfl⟩ rfl
    · refine mS_steps (pc' := 18) (ls' := [.ref 0, .int p1, .int p2, .int p3]) (st' := [.int p2, .int p1]) (mem' := (mk x y)) 2 rfl ?_
      refine mS_ic0 rfl (fun _ => ?_) (fun _ => ?_)
      · refine mS_steps (pc' := 29) (ls' := [.ref 0, .int p1, .int p2, .int p3]) (st' := [.int (-1 : Int32)]) (mem' := (mk x y)) 1 rfl ?_
        exact mS_reti ⟨_, _, _, _, _, rfl, rfl⟩ rfl
      · refine mS_steps (pc' := 22) (ls' := [.ref 0, .int p1, .int p2, .int p3]) (st' := [.int p3]) (mem' := (mk x y)) 1 rfl ?_
        refine mS_call (q := (f_X10_isCost p3)) 53 1 [.int p3] [] rfl rfl rfl ⟨_, _, _, rfl, rfl⟩ (Nat.le_of_ble_eq_true rfl) (Nat.le_of_ble_eq_true rfl) rfl (f_X10_isCost_snd p3 (mk x y)) ?_
        refine mS_steps (pc' := 25) (ls' := [.ref 0, .int p1, .int p2, .int p3]) (st' := [.int (f_X10_isCost p3)]) (mem' := (mk x y)) 0 rfl ?_
        refine mS_if1 rfl (fun _ => ?_) (fun _ => ?_)
        · refine mS_steps (pc' := 29) (ls' := [.ref 0, .int p1, .int p2, .int p3]) (st' := [.int (-1 : Int32)]) (mem' := (mk x y)) 1 rfl ?_
          exact mS_reti ⟨_, _, _, _, _, rfl, rfl⟩ rfl
        · refine mS_steps (pc' := 39) (ls' := [.ref 0, .int p1, .int p2, .int p3]) (st' := [.int (16 : Int32), .int (x.1 14 1)]) (mem' := (mk x y)) 4 rfl ?_
          refine mS_ic3 rfl (fun _ => ?_) (fun _ => ?_)
          · refine mS_steps (pc' := 56) (ls' := [.ref 0, .int p1, .int p2, .int p3]) (st' := [.int (-1 : Int32)]) (mem' := (mk x y)) 1 rfl ?_
            exact mS_reti ⟨_, _, _, _, _, rfl, rfl⟩ rfl
          · refine mS_steps (pc' := 48) (ls' := [.ref 0, .int p1, .int p2, .int p3]) (st' := [.int p2, .int p1, .ref 14]) (mem' := (mk x y)) 4 rfl ?_
            refine mS_bind (fun q1 hq1 => mS_call 52 3 [.ref 14, .int p1, .int p2] [] rfl rfl rfl ⟨_, _, _, rfl, rfl⟩ (Nat.le_of_ble_eq_true rfl) (Nat.le_of_ble_eq_true rfl) hq1 (f_X6_between_14_snd p1 p2 x y) ?_)
            refine mS_steps (pc' := 52) (ls' := [.ref 0, .int p1, .int p2, .int p3]) (st' := [.int (-1 : Int32), .int q1]) (mem' := (mk x y)) 1 rfl ?_
            refine mS_ic0 rfl (fun _ => ?_) (fun _ => ?_)
            · refine mS_steps (pc' := 65) (ls' := [.ref 0, .int p1, .int p2, .int p3]) (st' := [.ref 14, .ref 19]) (mem' := (mk x y)) 4 rfl ?_
              refine mS_bind (fun q2 hq2 => mS_call 95 2 [.ref 19, .ref 14] [] rfl rfl rfl ⟨_, _, _, rfl, rfl⟩ (Nat.le_of_ble_eq_true rfl) (Nat.le_of_ble_eq_true rfl) hq2 (f_X2_keep_snd  x y) ?_)
              refine mS_steps (pc' := 75) (ls' := [.ref 0, .int p1, .int p2, .int p3]) (st' := [.int p3, .int p2, .int p1, .ref 14]) (mem' := (mk q2 y)) 5 rfl ?_
              refine mS_bind (fun q3 hq3 => mS_call 54 4 [.ref 14, .int p1, .int p2, .int p3] [] rfl rfl rfl ⟨_, _, _, rfl, rfl⟩ (Nat.le_of_ble_eq_true rfl) (Nat.le_of_ble_eq_true rfl) hq3 (f_X6_add_14_snd p1 p2 p3 q2 y) ?_)
              refine mS_steps (pc' := 80) (ls' := [.ref 0, .int p1, .int p2, .int p3]) (st' := [.int (1 : Int32), .ref 0]) (mem' := (mk q3 y)) 2 rfl ?_
              refine mS_putcx rfl rfl (by decide) rfl (by decide) ?_
              refine mS_letx (fun x4 => ?_)
              refine mS_steps (pc' := 92) (ls' := [.ref 0, .int p1, .int p2, .int p3]) (st' := [.int ((x4.1 14 1) - (1 : Int32))]) (mem' := (mk x4 y)) 5 rfl ?_
              exact mS_reti ⟨_, _, _, _, _, rfl, rfl⟩ rfl
            · refine mS_steps (pc' := 56) (ls' := [.ref 0, .int p1, .int p2, .int p3]) (st' := [.int (-1 : Int32)]) (mem' := (mk x y)) 1 rfl ?_
              exact mS_reti ⟨_, _, _, _, _, rfl, rfl⟩ rfl
def f_X11_between_L2 (a1 : Int32) (a2 : Int32) : Nat → Int32 → mY → Option Int32
  | 0, _, _ => none
  | n + 1, a3, y => (if (y.1 289 4) ≤ a3 then (some (-1 : Int32)) else (if m_in ((8 : Int32) + a3) 72 = true then (m_jn (fun _ => (if m_in ((8 : Int32) + a3) 72 = true then (if (y.1 289 ((8 : Int32) + a3).toNatClampNeg) = a2 then (if m_in ((24 : Int32) + a3) 72 = true then (if (y.1 289 ((24 : Int32) + a3).toNatClampNeg) = a1 then (some a3) else (f_X11_between_L2 a1 a2 n (a3 + (1 : Int32)) y)) else none) else (f_X11_between_L2 a1 a2 n (a3 + (1 : Int32)) y)) else none)) (fun j1 => if (y.1 289 ((8 : Int32) + a3).toNatClampNeg) = a1 then (if m_in ((24 : Int32) + a3) 72 = true then (if (y.1 289 ((24 : Int32) + a3).toNatClampNeg) = a2 then (some a3) else (j1 ())) else none) else (j1 ()))) else none))
def f_X11_between (p1 : Int32) (p2 : Int32) (y : mY) : Option Int32 := (f_X11_between_L2 p1 p2 mF (0 : Int32) y)
set_option maxRecDepth 20000 in
set_option maxHeartbeats 2000000 in
theorem f_X11_between_L2_snd {fm : Value} {L : Nat} {xs : Nat → Int32} (a1 : Int32) (a2 : Int32) (y : mY) (x : mX) : ∀ (n : Nat) (a3 : Int32), mS fm L xs (fun r : Int32 => (.int r, (mk x y))) pg_X11_between 2 [.ref 279, .int a1, .int a2, .int a3] [] (mk x y) (f_X11_between_L2 a1 a2 n a3 y) := by
  intro n
  induction n with
  | zero => intro a3; exact mS_none
  | succ n ih =>
    intro a3
    rw [f_X11_between_L2]
    refine mS_steps (pc' := 8) (ls' := [.ref 279, .int a1, .int a2, .int a3]) (st' := [.int (4 : Int32), .ref 289, .int a3]) (mem' := (mk x y)) 4 rfl ?_
    refine mS_aldc (b := 0) (n := 72) (c := 4) (z := (y.1 289 4)) rfl (by decide) rfl (by decide) (by decide) (by decide) rfl ?_
    refine mS_ic3 rfl (fun _ => ?_) (fun _ => ?_)
    · refine mS_steps (pc' := 73) (ls' := [.ref 279, .int a1, .int a2, .int a3]) (st' := [.int (-1 : Int32)]) (mem' := (mk x y)) 1 rfl ?_
      exact mS_reti ⟨_, _, _, _, _, rfl, rfl⟩ rfl
    · refine mS_steps (pc' := 20) (ls' := [.ref 279, .int a1, .int a2, .int a3]) (st' := [.int ((8 : Int32) + a3), .ref 289]) (mem' := (mk x y)) 5 rfl ?_
      refine mS_ald (b := 0) (n := 72) (z := (y.1 289 ((8 : Int32) + a3).toNatClampNeg)) rfl (by decide) rfl (by decide) rfl (fun _ => ?_)
      refine mS_steps (pc' := 22) (ls' := [.ref 279, .int a1, .int a2, .int a3]) (st' := [.int a1, .int (y.1 289 ((8 : Int32) + a3).toNatClampNeg)]) (mem' := (mk x y)) 1 rfl ?_
      refine mS_jn (fun j => ∀ z : Unit, mS fm L xs (fun r : Int32 => (.int r, (mk x y))) pg_X11_between 38 [.ref 279, .int a1, .int a2, .int a3] [] (mk x y) (j z)) ?_ ?_
      · intro z
        refine mS_steps (pc' := 46) (ls' := [.ref 279, .int a1, .int a2, .int a3]) (st' := [.int ((8 : Int32) + a3), .ref 289]) (mem' := (mk x y)) 5 rfl ?_
        refine mS_ald (b := 0) (n := 72) (z := (y.1 289 ((8 : Int32) + a3).toNatClampNeg)) rfl (by decide) rfl (by decide) rfl (fun _ => ?_)
        refine mS_steps (pc' := 48) (ls' := [.ref 279, .int a1, .int a2, .int a3]) (st' := [.int a2, .int (y.1 289 ((8 : Int32) + a3).toNatClampNeg)]) (mem' := (mk x y)) 1 rfl ?_
        refine mS_ic1 rfl (fun _ => ?_) (fun _ => ?_)
        · refine mS_steps (pc' := 59) (ls' := [.ref 279, .int a1, .int a2, .int a3]) (st' := [.int ((24 : Int32) + a3), .ref 289]) (mem' := (mk x y)) 5 rfl ?_
          refine mS_ald (b := 0) (n := 72) (z := (y.1 289 ((24 : Int32) + a3).toNatClampNeg)) rfl (by decide) rfl (by decide) rfl (fun _ => ?_)
          refine mS_steps (pc' := 61) (ls' := [.ref 279, .int a1, .int a2, .int a3]) (st' := [.int a1, .int (y.1 289 ((24 : Int32) + a3).toNatClampNeg)]) (mem' := (mk x y)) 1 rfl ?_
          refine mS_ic1 rfl (fun _ => ?_) (fun _ => ?_)
          · refine mS_steps (pc' := 65) (ls' := [.ref 279, .int a1, .int a2, .int a3]) (st' := [.int a3]) (mem' := (mk x y)) 1 rfl ?_
            exact mS_reti ⟨_, _, _, _, _, rfl, rfl⟩ rfl
          · refine mS_steps (pc' := 2) (ls' := [.ref 279, .int a1, .int a2, .int (a3 + (1 : Int32))]) (st' := []) (mem' := (mk x y)) 2 rfl ?_
            exact ih (a3 + (1 : Int32))
        · refine mS_steps (pc' := 2) (ls' := [.ref 279, .int a1, .int a2, .int (a3 + (1 : Int32))]) (st' := []) (mem' := (mk x y)) 2 rfl ?_
          exact ih (a3 + (1 : Int32))
      intro j1 hj1
      refine mS_ic1 rfl (fun _ => ?_) (fun _ => ?_)
      · refine mS_steps (pc' := 33) (ls' := [.ref 279, .int a1, .int a2, .int a3]) (st' := [.int ((24 : Int32) + a3), .ref 289]) (mem' := (mk x y)) 5 rfl ?_
        refine mS_ald (b := 0) (n := 72) (z := (y.1 289 ((24 : Int32) + a3).toNatClampNeg)) rfl (by decide) rfl (by decide) rfl (fun _ => ?_)
        refine mS_steps (pc' := 35) (ls' := [.ref 279, .int a1, .int a2, .int a3]) (st' := [.int a2, .int (y.1 289 ((24 : Int32) + a3).toNatClampNeg)]) (mem' := (mk x y)) 1 rfl ?_
        refine mS_ic0 rfl (fun _ => ?_) (fun _ => ?_)
        · refine mS_steps (pc' := 65) (ls' := [.ref 279, .int a1, .int a2, .int a3]) (st' := [.int a3]) (mem' := (mk x y)) 1 rfl ?_
          exact mS_reti ⟨_, _, _, _, _, rfl, rfl⟩ rfl
        · exact hj1 ()
      · exact hj1 ()
set_option maxRecDepth 20000 in
set_option maxHeartbeats 2000000 in
theorem f_X11_between_snd {fm : Value} {L : Nat} {xs : Nat → Int32} (p1 : Int32) (p2 : Int32) (y : mY) (x : mX) : mS fm L xs (fun r : Int32 => (.int r, (mk x y))) pg_X11_between 0 (m_entry [.ref 279, .int p1, .int p2] 4) [] (mk x y) ((f_X11_between p1 p2 y)) := by
  unfold f_X11_between
  refine mS_steps (pc' := 0) (ls' := [.ref 279, .int p1, .int p2, mU]) (st' := []) (mem' := (mk x y)) 0 rfl ?_
  refine mS_steps (pc' := 2) (ls' := [.ref 279, .int p1, .int p2, .int (0 : Int32)]) (st' := []) (mem' := (mk x y)) 2 rfl ?_
  refine f_X11_between_L2_snd p1 p2 y x mF (0 : Int32)
def f_X11_lay (p1 : Int32) (p2 : Int32) (p3 : Int32) (y : mY) : Option (Int32 × mY) := ((f_X11_isPost p1 y).bind fun q1 => (if q1 = 0 then (some ((-1 : Int32), y)) else ((f_X11_isPost p2 y).bind fun q2 => (if q2 = 0 then (some ((-1 : Int32), y)) else (if p1 = p2 then (some ((-1 : Int32), y)) else (if (f_X11_in p3 (1 : Int32) (99 : Int32)) = 0 then (some ((-1 : Int32), y)) else (if (y.1 289 4) = (16 : Int32) then (some ((-1 : Int32), y)) else ((f_X11_between p1 p2 y).bind fun q3 => (if q3 < 0 then ((f_X11_marks y).bind fun q4 => (if m_in ((8 : Int32) + (q4.1 289 4)) 72 = true then (m_let (m_ys q4 289 ((8 : Int32) + (q4.1 289 4)).toNatClampNeg p1) fun y5 => (if m_in ((24 : Int32) + (q4.1 289 4)) 72 = true then (m_let (m_ys y5 289 ((24 : Int32) + (q4.1 289 4)).toNatClampNeg p2) fun y6 => (if m_in ((40 : Int32) + (q4.1 289 4)) 72 = true then (m_let (m_ys y6 289 ((40 : Int32) + (q4.1 289 4)).toNatClampNeg p3) fun y7 => (if m_in ((56 : Int32) + (q4.1 289 4)) 72 = true then (m_let (m_ys y7 289 ((56 : Int32) + (q4.1 289 4)).toNatClampNeg (0 : Int32)) fun y8 => (m_let (m_ys y8 289 1 ((y8.1 289 1) ||| ((1 : Int32) <<< ((q4.1 289 4) &&& 31)))) fun y9 => (m_let (m_ys y9 289 4 ((y9.1 289 4) + (1 : Int32))) fun y10 => (some ((q4.1 289 4), y10))))) else none)) else none)) else none)) else none)) else (some ((-1 : Int32), y)))))))))))
set_option maxRecDepth 20000 in
set_option maxHeartbeats 2000000 in
theorem f_X11_lay_snd {fm : Value} {L : Nat} {xs : Nat → Int32} (p1 : Int32) (p2 : Int32) (p3 : Int32) (y : mY) (x : mX) : mS fm L xs (fun r : (Int32 × mY) => (.int r.1, mk x r.2)) pg_X11_lay 0 (m_entry [.ref 279, .int p1, .int p2, .int p3] 5) [] (mk x y) ((f_X11_lay p1 p2 p3 y)) := by
  unfold f_X11_lay
  refine mS_steps (pc' := 0) (ls' := [.ref 279, .int p1, .int p2, .int p3, mU]) (st' := []) (mem' := (mk x y)) 0 rfl ?_
  refine mS_steps (pc' := 2) (ls' := [.ref 279, .int p1, .int p2, .int p3, mU]) (st' := [.int p1, .ref 279]) (mem' := (mk x y)) 2 rfl ?_
  refine mS_bind (fun q1 hq1 => mS_call 104 2 [.ref 279, .int p1] [] rfl rfl rfl ⟨_, _, _, rfl, rfl⟩ (Nat.le_of_ble_eq_true rfl) (Nat.le_of_ble_eq_true rfl) hq1 (f_X11_isPost_snd p1 y x) ?_)
  refine mS_steps (pc' := 5) (ls' := [.ref 279, .int p1, .int p2, .int p3, mU]) (st' := [.int q1]) (mem' := (mk x y)) 0 rfl ?_
  refine mS_if0 rfl (fun _ => ?_) (fun _ => ?_)
  · refine mS_steps (pc' := 52) (ls' := [.ref 279, .int p1, .int p2, .int p3, mU]) (st' := [.int (-1 : Int32)]) (mem' := (mk x y)) 1 rfl ?_
    exact mS_reti ⟨_, _, _, _, _, rfl, rfl⟩ rfl
  · refine mS_steps (pc' := 10) (ls' := [.ref 279, .int p1, .int p2, .int p3, mU]) (st' := [.int p2, .ref 279]) (mem' := (mk x y)) 2 rfl ?_
    refine mS_bind (fun q2 hq2 => mS_call 104 2 [.ref 279, .int p2] [] rfl rfl rfl ⟨_, _, _, rfl, rfl⟩ (Nat.le_of_ble_eq_true rfl) (Nat.le_of_ble_eq_true rfl) hq2 (f_X11_isPost_snd p2 y x) ?_)
    refine mS_steps (pc' := 13) (ls' := [.ref 279, .int p1, .int p2, .int p3, mU]) (st' := [.int q2]) (mem' := (mk x y)) 0 rfl ?_
    refine mS_if0 rfl (fun _ => ?_) (fun _ => ?_)
    · refine mS_steps (pc' := 52) (ls' := [.ref 279, .int p1, .int p2, .int p3, mU]) (st' := [.int (-1 : Int32)]) (mem' := (mk x y)) 1 rfl ?_
      exact mS_reti ⟨_, _, _, _, _, rfl, rfl⟩ rfl
    · refine mS_steps (pc' := 18) (ls' := [.ref 279, .int p1, .int p2, .int p3, mU]) (st' := [.int p2, .int p1]) (mem' := (mk x y)) 2 rfl ?_
      refine mS_ic0 rfl (fun _ => ?_) (fun _ => ?_)
      · refine mS_steps (pc' := 52) (ls' := [.ref 279, .int p1, .int p2, .int p3, mU]) (st' := [.int (-1 : Int32)]) (mem' := (mk x y)) 1 rfl ?_
        exact mS_reti ⟨_, _, _, _, _, rfl, rfl⟩ rfl
      · refine mS_steps (pc' := 25) (ls' := [.ref 279, .int p1, .int p2, .int p3, mU]) (st' := [.int (99 : Int32), .int (1 : Int32), .int p3]) (mem' := (mk x y)) 3 rfl ?_
        refine mS_call (q := (f_X11_in p3 (1 : Int32) (99 : Int32))) 83 3 [.int p3, .int (1 : Int32), .int (99 : Int32)] [] rfl rfl rfl ⟨_, _, _, rfl, rfl⟩ (Nat.le_of_ble_eq_true rfl) (Nat.le_of_ble_eq_true rfl) rfl (f_X11_in_snd p3 (1 : Int32) (99 : Int32) (mk x y)) ?_
        refine mS_steps (pc' := 28) (ls' := [.ref 279, .int p1, .int p2, .int p3, mU]) (st' := [.int (f_X11_in p3 (1 : Int32) (99 : Int32))]) (mem' := (mk x y)) 0 rfl ?_
        refine mS_if0 rfl (fun _ => ?_) (fun _ => ?_)
        · refine mS_steps (pc' := 52) (ls' := [.ref 279, .int p1, .int p2, .int p3, mU]) (st' := [.int (-1 : Int32)]) (mem' := (mk x y)) 1 rfl ?_
          exact mS_reti ⟨_, _, _, _, _, rfl, rfl⟩ rfl
        · refine mS_steps (pc' := 36) (ls' := [.ref 279, .int p1, .int p2, .int p3, mU]) (st' := [.int (4 : Int32), .ref 289]) (mem' := (mk x y)) 3 rfl ?_
          refine mS_aldc (b := 0) (n := 72) (c := 4) (z := (y.1 289 4)) rfl (by decide) rfl (by decide) (by decide) (by decide) rfl ?_
          refine mS_steps (pc' := 39) (ls' := [.ref 279, .int p1, .int p2, .int p3, mU]) (st' := [.int (16 : Int32), .int (y.1 289 4)]) (mem' := (mk x y)) 1 rfl ?_
          refine mS_ic0 rfl (fun _ => ?_) (fun _ => ?_)
          · refine mS_steps (pc' := 52) (ls' := [.ref 279, .int p1, .int p2, .int p3, mU]) (st' := [.int (-1 : Int32)]) (mem' := (mk x y)) 1 rfl ?_
            exact mS_reti ⟨_, _, _, _, _, rfl, rfl⟩ rfl
          · refine mS_steps (pc' := 45) (ls' := [.ref 279, .int p1, .int p2, .int p3, mU]) (st' := [.int p2, .int p1, .ref 279]) (mem' := (mk x y)) 3 rfl ?_
            refine mS_bind (fun q3 hq3 => mS_call 107 3 [.ref 279, .int p1, .int p2] [] rfl rfl rfl ⟨_, _, _, rfl, rfl⟩ (Nat.le_of_ble_eq_true rfl) (Nat.le_of_ble_eq_true rfl) hq3 (f_X11_between_snd p1 p2 y x) ?_)
            refine mS_steps (pc' := 48) (ls' := [.ref 279, .int p1, .int p2, .int p3, mU]) (st' := [.int q3]) (mem' := (mk x y)) 0 rfl ?_
            refine mS_if2 rfl (fun _ => ?_) (fun _ => ?_)
            · refine mS_steps (pc' := 54) (ls' := [.ref 279, .int p1, .int p2, .int p3, mU]) (st' := [.ref 279]) (mem' := (mk x y)) 1 rfl ?_
              refine mS_bind (fun q4 hq4 => mS_call 98 1 [.ref 279] [] rfl rfl rfl ⟨_, _, _, rfl, rfl⟩ (Nat.le_of_ble_eq_true rfl) (Nat.le_of_ble_eq_true rfl) hq4 (f_X11_marks_snd  y x) ?_)
              refine mS_steps (pc' := 62) (ls' := [.ref 279, .int p1, .int p2, .int p3, mU]) (st' := [.int (4 : Int32), .ref 289]) (mem' := (mk x q4)) 3 rfl ?_
              refine mS_aldc (b := 0) (n := 72) (c := 4) (z := (q4.1 289 4)) rfl (by decide) rfl (by decide) (by decide) (by decide) rfl ?_
              refine mS_steps (pc' := 75) (ls' := [.ref 279, .int p1, .int p2, .int p3, .int (q4.1 289 4)]) (st' := [.int p1, .int ((8 : Int32) + (q4.1 289 4)), .ref 289]) (mem' := (mk x q4)) 7 rfl ?_
              refine mS_ast0y (n := 72) rfl rfl (by decide) (fun _ => ?_)
              refine mS_lety (fun y5 => ?_)
              refine mS_steps (pc' := 86) (ls' := [.ref 279, .int p1, .int p2, .int p3, .int (q4.1 289 4)]) (st' := [.int p2, .int ((24 : Int32) + (q4.1 289 4)), .ref 289]) (mem' := (mk x y5)) 6 rfl ?_
              refine mS_ast0y (n := 72) rfl rfl (by decide) (fun _ => ?_)
              refine mS_lety (fun y6 => ?_)
              refine mS_steps (pc' := 97) (ls' := [.ref 279, .int p1, .int p2, .int p3, .int (q4.1 289 4)]) (st' := [.int p3, .int ((40 : Int32) + (q4.1 289 4)), .ref 289]) (mem' := (mk x y6)) 6 rfl ?_
              refine mS_ast0y (n := 72) rfl rfl (by decide) (fun _ => ?_)
              refine mS_lety (fun y7 => ?_)
              refine mS_steps (pc' := 108) (ls' := [.ref 279, .int p1, .int p2, .int p3, .int (q4.1 289 4)]) (st' := [.int (0 : Int32), .int ((56 : Int32) + (q4.1 289 4)), .ref 289]) (mem' := (mk x y7)) 6 rfl ?_
              refine mS_ast0y (n := 72) rfl rfl (by decide) (fun _ => ?_)
              refine mS_lety (fun y8 => ?_)
              refine mS_steps (pc' := 115) (ls' := [.ref 279, .int p1, .int p2, .int p3, .int (q4.1 289 4)]) (st' := [.int (1 : Int32), .ref 289, .int (1 : Int32), .ref 289]) (mem' := (mk x y8)) 4 rfl ?_
              refine mS_aldc (b := 0) (n := 72) (c := 1) (z := (y8.1 289 1)) rfl (by decide) rfl (by decide) (by decide) (by decide) rfl ?_
              refine mS_steps (pc' := 121) (ls' := [.ref 279, .int p1, .int p2, .int p3, .int (q4.1 289 4)]) (st' := [.int ((y8.1 289 1) ||| ((1 : Int32) <<< ((q4.1 289 4) &&& 31))), .int (1 : Int32), .ref 289]) (mem' := (mk x y8)) 4 rfl ?_
              refine mS_ast0yc (n := 72) (c := 1) rfl rfl (by decide) (by decide) (by decide) ?_
              refine mS_lety (fun y9 => ?_)
              refine mS_steps (pc' := 128) (ls' := [.ref 279, .int p1, .int p2, .int p3, .int (q4.1 289 4)]) (st' := [.int (4 : Int32), .ref 289, .int (4 : Int32), .ref 289]) (mem' := (mk x y9)) 4 rfl ?_
              refine mS_aldc (b := 0) (n := 72) (c := 4) (z := (y9.1 289 4)) rfl (by decide) rfl (by decide) (by decide) (by decide) rfl ?_
              refine mS_steps (pc' := 131) (ls' := [.ref 279, .int p1, .int p2, .int p3, .int (q4.1 289 4)]) (st' := [.int ((y9.1 289 4) + (1 : Int32)), .int (4 : Int32), .ref 289]) (mem' := (mk x y9)) 2 rfl ?_
              refine mS_ast0yc (n := 72) (c := 4) rfl rfl (by decide) (by decide) (by decide) ?_
              refine mS_lety (fun y10 => ?_)
              refine mS_steps (pc' := 134) (ls' := [.ref 279, .int p1, .int p2, .int p3, .int (q4.1 289 4)]) (st' := [.int (q4.1 289 4)]) (mem' := (mk x y10)) 1 rfl ?_
              exact mS_reti ⟨_, _, _, _, _, rfl, rfl⟩ rfl
            · refine mS_steps (pc' := 52) (ls' := [.ref 279, .int p1, .int p2, .int p3, mU]) (st' := [.int (-1 : Int32)]) (mem' := (mk x y)) 1 rfl ?_
              exact mS_reti ⟨_, _, _, _, _, rfl, rfl⟩ rfl
def f_X10_learn (x : mX) : Option (Int32 × mX) := ((f_X6_live 14 x).bind fun q1 => (m_jn (fun _ => ((f_X2_keep x).bind fun q3 => (m_let (m_xs q3 14 5 (q3.1 14 2)) fun x4 => (m_let (m_xs x4 14 6 q1) fun x5 => (m_let (m_xs x5 0 8 (1 : Int32)) fun x6 => (some ((1 : Int32), x6))))))) (fun j2 => if (x.1 14 5) = (x.1 14 2) then (if (x.1 14 6) = q1 then (some ((0 : Int32), x)) else (j2 ())) else (j2 ()))))
set_option maxRecDepth 20000 in
set_option maxHeartbeats 2000000 in
theorem f_X10_learn_snd {fm : Value} {L : Nat} {xs : Nat → Int32} (x : mX) (y : mY) : mS fm L xs (fun r : (Int32 × mX) => (.int r.1, mk r.2 y)) pg_X10_learn 0 (m_entry [.ref 0] 2) [] (mk x y) ((f_X10_learn x)) := by
  unfold f_X10_learn
  refine mS_steps (pc' := 0) (ls' := [.ref 0, mU]) (st' := []) (mem' := (mk x y)) 0 rfl ?_
  refine mS_steps (pc' := 4) (ls' := [.ref 0, mU]) (st' := [.ref 14]) (mem' := (mk x y)) 2 rfl ?_
  refine mS_bind (fun q1 hq1 => mS_call 61 1 [.ref 14] [] rfl rfl rfl ⟨_, _, _, rfl, rfl⟩ (Nat.le_of_ble_eq_true rfl) (Nat.le_of_ble_eq_true rfl) hq1 (f_X6_live_14_snd  x y) ?_)
  refine mS_steps (pc' := 22) (ls' := [.ref 0, .int q1]) (st' := [.int (x.1 14 2), .int (x.1 14 5)]) (mem' := (mk x y)) 7 rfl ?_
  refine mS_jn (fun j => ∀ z : Unit, mS fm L xs (fun r : (Int32 × mX) => (.int r.1, mk r.2 y)) pg_X10_learn 38 [.ref 0, .int q1] [] (mk x y) (j z)) ?_ ?_
  · intro z
    refine mS_steps (pc' := 46) (ls' := [.ref 0, .int q1]) (st' := [.ref 14, .ref 19]) (mem' := (mk x y)) 4 rfl ?_
    refine mS_bind (fun q3 hq3 => mS_call 95 2 [.ref 19, .ref 14] [] rfl rfl rfl ⟨_, _, _, rfl, rfl⟩ (Nat.le_of_ble_eq_true rfl) (Nat.le_of_ble_eq_true rfl) hq3 (f_X2_keep_snd  x y) ?_)
    refine mS_steps (pc' := 60) (ls' := [.ref 0, .int q1]) (st' := [.int (q3.1 14 2), .ref 14]) (mem' := (mk q3 y)) 5 rfl ?_
    refine mS_putx rfl rfl (by decide) rfl ?_
    refine mS_letx (fun x4 => ?_)
    refine mS_steps (pc' := 68) (ls' := [.ref 0, .int q1]) (st' := [.int q1, .ref 14]) (mem' := (mk x4 y)) 3 rfl ?_
    refine mS_putx rfl rfl (by decide) rfl ?_
    refine mS_letx (fun x5 => ?_)
    refine mS_steps (pc' := 73) (ls' := [.ref 0, .int q1]) (st' := [.int (1 : Int32), .ref 0]) (mem' := (mk x5 y)) 2 rfl ?_
    refine mS_putcx rfl rfl (by decide) rfl (by decide) ?_
    refine mS_letx (fun x6 => ?_)
    refine mS_steps (pc' := 77) (ls' := [.ref 0, .int q1]) (st' := [.int (1 : Int32)]) (mem' := (mk x6 y)) 1 rfl ?_
    exact mS_reti ⟨_, _, _, _, _, rfl, (by decide)⟩ rfl
  intro j2 hj2
  refine mS_ic1 rfl (fun _ => ?_) (fun _ => ?_)
  · refine mS_steps (pc' := 33) (ls' := [.ref 0, .int q1]) (st' := [.int q1, .int (x.1 14 6)]) (mem' := (mk x y)) 4 rfl ?_
    refine mS_ic1 rfl (fun _ => ?_) (fun _ => ?_)
    · refine mS_steps (pc' := 37) (ls' := [.ref 0, .int q1]) (st' := [.int (0 : Int32)]) (mem' := (mk x y)) 1 rfl ?_
      exact mS_reti ⟨_, _, _, _, _, rfl, (by decide)⟩ rfl
    · exact hj2 ()
  · exact hj2 ()
def f_X11_learn (y : mY) : Option (Int32 × mY) := (if (y.1 289 2) = (y.1 289 0) then ((f_X11_netLinks y).bind fun q1 => (if (y.1 289 3) = q1 then (some ((0 : Int32), y)) else ((f_X11_marks y).bind fun q2 => ((f_X11_learns q2).bind fun q3 => (some ((1 : Int32), q3)))))) else ((f_X11_marks y).bind fun q4 => ((f_X11_learns q4).bind fun q5 => (some ((1 : Int32), q5)))))
set_option maxRecDepth 20000 in
set_option maxHeartbeats 2000000 in
theorem f_X11_learn_snd {fm : Value} {L : Nat} {xs : Nat → Int32} (y : mY) (x : mX) : mS fm L xs (fun r : (Int32 × mY) => (.int r.1, mk x r.2)) pg_X11_learn 0 (m_entry [.ref 279] 1) [] (mk x y) ((f_X11_learn y)) := by
  unfold f_X11_learn
  refine mS_steps (pc' := 0) (ls' := [.ref 279]) (st' := []) (mem' := (mk x y)) 0 rfl ?_
  refine mS_steps (pc' := 5) (ls' := [.ref 279]) (st' := [.int (2 : Int32), .ref 289]) (mem' := (mk x y)) 3 rfl ?_
  refine mS_aldc (b := 0) (n := 72) (c := 2) (z := (y.1 289 2)) rfl (by decide) rfl (by decide) (by decide) (by decide) rfl ?_
  refine mS_steps (pc' := 11) (ls' := [.ref 279]) (st' := [.int (0 : Int32), .ref 289, .int (y.1 289 2)]) (mem' := (mk x y)) 3 rfl ?_
  refine mS_aldc (b := 0) (n := 72) (c := 0) (z := (y.1 289 0)) rfl (by decide) rfl (by decide) (by decide) (by decide) rfl ?_
  refine mS_ic1 rfl (fun _ => ?_) (fun _ => ?_)
  · refine mS_steps (pc' := 20) (ls' := [.ref 279]) (st' := [.int (3 : Int32), .ref 289]) (mem' := (mk x y)) 3 rfl ?_
    refine mS_aldc (b := 0) (n := 72) (c := 3) (z := (y.1 289 3)) rfl (by decide) rfl (by decide) (by decide) (by decide) rfl ?_
    refine mS_steps (pc' := 22) (ls' := [.ref 279]) (st' := [.ref 279, .int (y.1 289 3)]) (mem' := (mk x y)) 1 rfl ?_
    refine mS_bind (fun q1 hq1 => mS_call 89 1 [.ref 279] [.int (y.1 289 3)] rfl rfl rfl ⟨_, _, _, rfl, rfl⟩ (Nat.le_of_ble_eq_true rfl) (Nat.le_of_ble_eq_true rfl) hq1 (f_X11_netLinks_snd  y x) ?_)
    refine mS_steps (pc' := 25) (ls' := [.ref 279]) (st' := [.int q1, .int (y.1 289 3)]) (mem' := (mk x y)) 0 rfl ?_
    refine mS_ic1 rfl (fun _ => ?_) (fun _ => ?_)
    · refine mS_steps (pc' := 29) (ls' := [.ref 279]) (st' := [.int (0 : Int32)]) (mem' := (mk x y)) 1 rfl ?_
      exact mS_reti ⟨_, _, _, _, _, rfl, (by decide)⟩ rfl
    · refine mS_steps (pc' := 31) (ls' := [.ref 279]) (st' := [.ref 279]) (mem' := (mk x y)) 1 rfl ?_
      refine mS_bind (fun q2 hq2 => mS_call 98 1 [.ref 279] [] rfl rfl rfl ⟨_, _, _, rfl, rfl⟩ (Nat.le_of_ble_eq_true rfl) (Nat.le_of_ble_eq_true rfl) hq2 (f_X11_marks_snd  y x) ?_)
      refine mS_steps (pc' := 35) (ls' := [.ref 279]) (st' := [.ref 279]) (mem' := (mk x q2)) 1 rfl ?_
      refine mS_bind (fun q3 hq3 => mS_call 90 1 [.ref 279] [] rfl rfl rfl ⟨_, _, _, rfl, rfl⟩ (Nat.le_of_ble_eq_true rfl) (Nat.le_of_ble_eq_true rfl) hq3 (f_X11_learns_snd  q2 x) ?_)
      refine mS_steps (pc' := 39) (ls' := [.ref 279]) (st' := [.int (1 : Int32)]) (mem' := (mk x q3)) 1 rfl ?_
      exact mS_reti ⟨_, _, _, _, _, rfl, (by decide)⟩ rfl
  · refine mS_steps (pc' := 31) (ls' := [.ref 279]) (st' := [.ref 279]) (mem' := (mk x y)) 1 rfl ?_
    refine mS_bind (fun q4 hq4 => mS_call 98 1 [.ref 279] [] rfl rfl rfl ⟨_, _, _, rfl, rfl⟩ (Nat.le_of_ble_eq_true rfl) (Nat.le_of_ble_eq_true rfl) hq4 (f_X11_marks_snd  y x) ?_)
    refine mS_steps (pc' := 35) (ls' := [.ref 279]) (st' := [.ref 279]) (mem' := (mk x q4)) 1 rfl ?_
    refine mS_bind (fun q5 hq5 => mS_call 90 1 [.ref 279] [] rfl rfl rfl ⟨_, _, _, rfl, rfl⟩ (Nat.le_of_ble_eq_true rfl) (Nat.le_of_ble_eq_true rfl) hq5 (f_X11_learns_snd  q4 x) ?_)
    refine mS_steps (pc' := 39) (ls' := [.ref 279]) (st' := [.int (1 : Int32)]) (mem' := (mk x q5)) 1 rfl ?_
    exact mS_reti ⟨_, _, _, _, _, rfl, (by decide)⟩ rfl
def f_X10_canSend (p1 : Int32) (p2 : Int32) (x : mX) : Int32 := (if (f_X10_isPost p1 x) = 0 then (0 : Int32) else (if (f_X10_isPost p2 x) = 0 then (0 : Int32) else (if p1 = p2 then (0 : Int32) else (if (f_X10_has (x.1 14 2) p1) = 0 then (0 : Int32) else (if (f_X10_has (x.1 14 2) p2) = 0 then (0 : Int32) else (1 : Int32))))))
set_option maxRecDepth 20000 in
set_option maxHeartbeats 2000000 in
theorem f_X10_canSend_snd {fm : Value} {L : Nat} {xs : Nat → Int32} (p1 : Int32) (p2 : Int32) (x : mX) (y : mY) : mS fm L xs (fun r : Int32 => (.int r, (mk x y))) pg_X10_canSend 0 (m_entry [.ref 0, .int p1, .int p2] 3) [] (mk x y) (some (f_X10_canSend p1 p2 x)) := by
  unfold f_X10_canSend
  refine mS_steps (pc' := 0) (ls' := [.ref 0, .int p1, .int p2]) (st' := []) (mem' := (mk x y)) 0 rfl ?_
  refine mS_steps (pc' := 2) (ls' := [.ref 0, .int p1, .int p2]) (st' := [.int p1, .ref 0]) (mem' := (mk x y)) 2 rfl ?_
  refine mS_call (q := (f_X10_isPost p1 x)) 102 2 [.ref 0, .int p1] [] rfl rfl rfl ⟨_, _, _, rfl, rfl⟩ (Nat.le_of_ble_eq_true rfl) (Nat.le_of_ble_eq_true rfl) rfl (f_X10_isPost_snd p1 x y) ?_
  refine mS_steps (pc' := 5) (ls' := [.ref 0, .int p1, .int p2]) (st' := [.int (f_X10_isPost p1 x)]) (mem' := (mk x y)) 0 rfl ?_
  refine mS_if0T rfl (fun _ => ?_) (fun _ => ?_)
  · refine mS_steps (pc' := 54) (ls' := [.ref 0, .int p1, .int p2]) (st' := [.int (0 : Int32)]) (mem' := (mk x y)) 1 rfl ?_
    exact mS_reti ⟨_, _, _, _, _, rfl, (by decide)⟩ rfl
  · refine mS_steps (pc' := 10) (ls' := [.ref 0, .int p1, .int p2]) (st' := [.int p2, .ref 0]) (mem' := (mk x y)) 2 rfl ?_
    refine mS_call (q := (f_X10_isPost p2 x)) 102 2 [.ref 0, .int p2] [] rfl rfl rfl ⟨_, _, _, rfl, rfl⟩ (Nat.le_of_ble_eq_true rfl) (Nat.le_of_ble_eq_true rfl) rfl (f_X10_isPost_snd p2 x y) ?_
    refine mS_steps (pc' := 13) (ls' := [.ref 0, .int p1, .int p2]) (st' := [.int (f_X10_isPost p2 x)]) (mem' := (mk x y)) 0 rfl ?_
    refine mS_if0T rfl (fun _ => ?_) (fun _ => ?_)
    · refine mS_steps (pc' := 54) (ls' := [.ref 0, .int p1, .int p2]) (st' := [.int (0 : Int32)]) (mem' := (mk x y)) 1 rfl ?_
      exact mS_reti ⟨_, _, _, _, _, rfl, (by decide)⟩ rfl
    · refine mS_steps (pc' := 18) (ls' := [.ref 0, .int p1, .int p2]) (st' := [.int p2, .int p1]) (mem' := (mk x y)) 2 rfl ?_
      refine mS_ic0T rfl (fun _ => ?_) (fun _ => ?_)
      · refine mS_steps (pc' := 54) (ls' := [.ref 0, .int p1, .int p2]) (st' := [.int (0 : Int32)]) (mem' := (mk x y)) 1 rfl ?_
        exact mS_reti ⟨_, _, _, _, _, rfl, (by decide)⟩ rfl
      · refine mS_steps (pc' := 29) (ls' := [.ref 0, .int p1, .int p2]) (st' := [.int p1, .int (x.1 14 2)]) (mem' := (mk x y)) 4 rfl ?_
        refine mS_call (q := (f_X10_has (x.1 14 2) p1)) 57 2 [.int (x.1 14 2), .int p1] [] rfl rfl rfl ⟨_, _, _, rfl, rfl⟩ (Nat.le_of_ble_eq_true rfl) (Nat.le_of_ble_eq_true rfl) rfl (f_X10_has_snd (x.1 14 2) p1 (mk x y)) ?_
        refine mS_steps (pc' := 32) (ls' := [.ref 0, .int p1, .int p2]) (st' := [.int (f_X10_has (x.1 14 2) p1)]) (mem' := (mk x y)) 0 rfl ?_
        refine mS_if0T rfl (fun _ => ?_) (fun _ => ?_)
        · refine mS_steps (pc' := 54) (ls' := [.ref 0, .int p1, .int p2]) (st' := [.int (0 : Int32)]) (mem' := (mk x y)) 1 rfl ?_
          exact mS_reti ⟨_, _, _, _, _, rfl, (by decide)⟩ rfl
        · refine mS_steps (pc' := 43) (ls' := [.ref 0, .int p1, .int p2]) (st' := [.int p2, .int (x.1 14 2)]) (mem' := (mk x y)) 4 rfl ?_
          refine mS_call (q := (f_X10_has (x.1 14 2) p2)) 57 2 [.int (x.1 14 2), .int p2] [] rfl rfl rfl ⟨_, _, _, rfl, rfl⟩ (Nat.le_of_ble_eq_true rfl) (Nat.le_of_ble_eq_true rfl) rfl (f_X10_has_snd (x.1 14 2) p2 (mk x y)) ?_
          refine mS_steps (pc' := 46) (ls' := [.ref 0, .int p1, .int p2]) (st' := [.int (f_X10_has (x.1 14 2) p2)]) (mem' := (mk x y)) 0 rfl ?_
          refine mS_if0T rfl (fun _ => ?_) (fun _ => ?_)
          · refine mS_steps (pc' := 54) (ls' := [.ref 0, .int p1, .int p2]) (st' := [.int (0 : Int32)]) (mem' := (mk x y)) 1 rfl ?_
            exact mS_reti ⟨_, _, _, _, _, rfl, (by decide)⟩ rfl
          · refine mS_steps (pc' := 54) (ls' := [.ref 0, .int p1, .int p2]) (st' := [.int (1 : Int32)]) (mem' := (mk x y)) 2 rfl ?_
            exact mS_reti ⟨_, _, _, _, _, rfl, (by decide)⟩ rfl
def f_X10_reach_L22 (r0 : Nat) (a2 : Int32) (a3 : Int32) : Nat → Int32 → Int32 → mX → (Int32 → Option Int32) → Option Int32
  | 0, _, _, _, _ => none
  | n + 1, a5, a6, x, k55 => (if (8 : Int32) ≤ a6 then (k55 a5) else (if ((a3 >>> (a6 &&& 31)) &&& (1 : Int32)) = 0 then (f_X10_reach_L22 r0 a2 a3 n a5 (a6 + (1 : Int32)) x k55) else (if m_in a6 8 = true then (f_X10_reach_L22 r0 a2 a3 n (a5 ||| ((x.1 r0 a6.toNatClampNeg) &&& a2)) (a6 + (1 : Int32)) x k55) else none)))
def f_X10_reach_L9 (r0 : Nat) (a2 : Int32) : Nat → Int32 → Int32 → mX → Option Int32
  | 0, _, _, _ => none
  | n + 1, a3, a4, x => (if (8 : Int32) ≤ a4 then (some a3) else (f_X10_reach_L22 r0 a2 a3 mF a3 (0 : Int32) x (fun v1 => (if v1 = a3 then (some a3) else (f_X10_reach_L9 r0 a2 n v1 (a4 + (1 : Int32)) x)))))
def f_X10_reach (r0 : Nat) (p1 : Int32) (p2 : Int32) (x : mX) : Option Int32 := (f_X10_reach_L9 r0 p2 mF (((1 : Int32) <<< (p1 &&& 31)) &&& p2) (0 : Int32) x)
set_option maxRecDepth 20000 in
set_option maxHeartbeats 2000000 in
theorem f_X10_reach_L22_229_snd {fm : Value} {L : Nat} {xs : Nat → Int32} (a2 : Int32) (a3 : Int32) (a4 : Int32) (x : mX) (y : mY) (k55 : Int32 → Option Int32) (hk55 : ∀ (b5 : Int32), mS fm L xs (fun r : Int32 => (.int r, (mk x y))) pg_X10_reach 55 [.ref 229, mU, .int a2, .int a3, .int a4, .int b5, mU] [] (mk x y) (k55 b5)) : ∀ (n : Nat) (a5 : Int32) (a6 : Int32), mS fm L xs (fun r : Int32 => (.int r, (mk x y))) pg_X10_reach 22 [.ref 229, mU, .int a2, .int a3, .int a4, .int a5, .int a6] [] (mk x y) (f_X10_reach_L22 229 a2 a3 n a5 a6 x k55) := by
  intro n
  induction n with
  | zero => intro a5 a6; exact mS_none
  | succ n ih =>
    intro a5 a6
    rw [f_X10_reach_L22]
    refine mS_steps (pc' := 26) (ls' := [.ref 229, mU, .int a2, .int a3, .int a4, .int a5, .int a6]) (st' := [.int (8 : Int32), .int a6]) (mem' := (mk x y)) 2 rfl ?_
    refine mS_ic3 rfl (fun _ => ?_) (fun _ => ?_)
    · refine mS_forget [.ref 229, mU, .int a2, .int a3, .int a4, .int a5, mU] ⟨Or.inr rfl, Or.inl rfl, Or.inr rfl, Or.inr rfl, Or.inr rfl, Or.inr rfl, Or.inl rfl, trivial⟩ ?_
      exact hk55 a5
    · refine mS_steps (pc' := 35) (ls' := [.ref 229, mU, .int a2, .int a3, .int a4, .int a5, .int a6]) (st' := [.int ((a3 >>> (a6 &&& 31)) &&& (1 : Int32))]) (mem' := (mk x y)) 5 rfl ?_
      refine mS_if0 rfl (fun _ => ?_) (fun _ => ?_)
      · refine mS_steps (pc' := 22) (ls' := [.ref 229, mU, .int a2, .int a3, .int a4, .int a5, .int (a6 + (1 : Int32))]) (st' := []) (mem' := (mk x y)) 2 rfl ?_
        exact ih a5 (a6 + (1 : Int32))
      · refine mS_steps (pc' := 43) (ls' := [.ref 229, mU, .int a2, .int a3, .int a4, .int a5, .int a6]) (st' := [.int a6, .ref 229, .int a5]) (mem' := (mk x y)) 3 rfl ?_
        refine mS_ald (b := 0) (n := 8) (z := (x.1 229 a6.toNatClampNeg)) rfl (by decide) rfl (by decide) rfl (fun _ => ?_)
        refine mS_steps (pc' := 22) (ls' := [.ref 229, mU, .int a2, .int a3, .int a4, .int (a5 ||| ((x.1 229 a6.toNatClampNeg) &&& a2)), .int (a6 + (1 : Int32))]) (st' := []) (mem' := (mk x y)) 6 rfl ?_
        exact ih (a5 ||| ((x.1 229 a6.toNatClampNeg) &&& a2)) (a6 + (1 : Int32))
set_option maxRecDepth 20000 in
set_option maxHeartbeats 2000000 in
theorem f_X10_reach_L9_229_snd {fm : Value} {L : Nat} {xs : Nat → Int32} (a2 : Int32) (x : mX) (y : mY) : ∀ (n : Nat) (a3 : Int32) (a4 : Int32), mS fm L xs (fun r : Int32 => (.int r, (mk x y))) pg_X10_reach 9 [.ref 229, mU, .int a2, .int a3, .int a4, mU, mU] [] (mk x y) (f_X10_reach_L9 229 a2 n a3 a4 x) := by
  intro n
  induction n with
  | zero => intro a3 a4; exact mS_none
  | succ n ih =>
    intro a3 a4
    rw [f_X10_reach_L9]
    refine mS_steps (pc' := 13) (ls' := [.ref 229, mU, .int a2, .int a3, .int a4, mU, mU]) (st' := [.int (8 : Int32), .int a4]) (mem' := (mk x y)) 2 rfl ?_
    refine mS_ic3 rfl (fun _ => ?_) (fun _ => ?_)
    · refine mS_steps (pc' := 74) (ls' := [.ref 229, mU, .int a2, .int a3, .int a4, mU, mU]) (st' := [.int a3]) (mem' := (mk x y)) 1 rfl ?_
      exact mS_reti ⟨_, _, _, _, _, rfl, rfl⟩ rfl
    · refine mS_steps (pc' := 22) (ls' := [.ref 229, mU, .int a2, .int a3, .int a4, .int a3, .int (0 : Int32)]) (st' := []) (mem' := (mk x y)) 4 rfl ?_
      refine f_X10_reach_L22_229_snd a2 a3 a4 x y _ ?_ mF a3 (0 : Int32)
      · intro v1
        refine mS_steps (pc' := 58) (ls' := [.ref 229, mU, .int a2, .int a3, .int a4, .int v1, mU]) (st' := [.int a3, .int v1]) (mem' := (mk x y)) 2 rfl ?_
        refine mS_ic1 rfl (fun _ => ?_) (fun _ => ?_)
        · refine mS_steps (pc' := 74) (ls' := [.ref 229, mU, .int a2, .int a3, .int a4, .int v1, mU]) (st' := [.int a3]) (mem' := (mk x y)) 2 rfl ?_
          exact mS_reti ⟨_, _, _, _, _, rfl, rfl⟩ rfl
        · refine mS_steps (pc' := 9) (ls' := [.ref 229, mU, .int a2, .int v1, .int (a4 + (1 : Int32)), .int v1, mU]) (st' := []) (mem' := (mk x y)) 4 rfl ?_
          refine mS_forget [.ref 229, mU, .int a2, .int v1, .int (a4 + (1 : Int32)), mU, mU] ⟨Or.inr rfl, Or.inl rfl, Or.inr rfl, Or.inr rfl, Or.inr rfl, Or.inl rfl, Or.inl rfl, trivial⟩ ?_
          exact ih v1 (a4 + (1 : Int32))
set_option maxRecDepth 20000 in
set_option maxHeartbeats 2000000 in
theorem f_X10_reach_229_snd {fm : Value} {L : Nat} {xs : Nat → Int32} (p1 : Int32) (p2 : Int32) (x : mX) (y : mY) : mS fm L xs (fun r : Int32 => (.int r, (mk x y))) pg_X10_reach 0 (m_entry [.ref 229, .int p1, .int p2] 7) [] (mk x y) ((f_X10_reach 229 p1 p2 x)) := by
  unfold f_X10_reach
  refine mS_steps (pc' := 0) (ls' := [.ref 229, .int p1, .int p2, mU, mU, mU, mU]) (st' := []) (mem' := (mk x y)) 0 rfl ?_
  refine mS_steps (pc' := 9) (ls' := [.ref 229, .int p1, .int p2, .int (((1 : Int32) <<< (p1 &&& 31)) &&& p2), .int (0 : Int32), mU, mU]) (st' := []) (mem' := (mk x y)) 8 rfl ?_
  refine mS_forget [.ref 229, mU, .int p2, .int (((1 : Int32) <<< (p1 &&& 31)) &&& p2), .int (0 : Int32), mU, mU] ⟨Or.inr rfl, Or.inl rfl, Or.inr rfl, Or.inr rfl, Or.inr rfl, Or.inl rfl, Or.inl rfl, trivial⟩ ?_
  refine f_X10_reach_L9_229_snd p2 x y mF (((1 : Int32) <<< (p1 &&& 31)) &&& p2) (0 : Int32)
set_option maxRecDepth 20000 in
set_option maxHeartbeats 2000000 in
theorem f_X10_reach_L22_223_snd {fm : Value} {L : Nat} {xs : Nat → Int32} (a2 : Int32) (a3 : Int32) (a4 : Int32) (x : mX) (y : mY) (k55 : Int32 → Option Int32) (hk55 : ∀ (b5 : Int32), mS fm L xs (fun r : Int32 => (.int r, (mk x y))) pg_X10_reach 55 [.ref 223, mU, .int a2, .int a3, .int a4, .int b5, mU] [] (mk x y) (k55 b5)) : ∀ (n : Nat) (a5 : Int32) (a6 : Int32), mS fm L xs (fun r : Int32 => (.int r, (mk x y))) pg_X10_reach 22 [.ref 223, mU, .int a2, .int a3, .int a4, .int a5, .int a6] [] (mk x y) (f_X10_reach_L22 223 a2 a3 n a5 a6 x k55) := by
  intro n
  induction n with
  | zero => intro a5 a6; exact mS_none
  | succ n ih =>
    intro a5 a6
    rw [f_X10_reach_L22]
    refine mS_steps (pc' := 26) (ls' := [.ref 223, mU, .int a2, .int a3, .int a4, .int a5, .int a6]) (st' := [.int (8 : Int32), .int a6]) (mem' := (mk x y)) 2 rfl ?_
    refine mS_ic3 rfl (fun _ => ?_) (fun _ => ?_)
    · refine mS_forget [.ref 223, mU, .int a2, .int a3, .int a4, .int a5, mU] ⟨Or.inr rfl, Or.inl rfl, Or.inr rfl, Or.inr rfl, Or.inr rfl, Or.inr rfl, Or.inl rfl, trivial⟩ ?_
      exact hk55 a5
    · refine mS_steps (pc' := 35) (ls' := [.ref 223, mU, .int a2, .int a3, .int a4, .int a5, .int a6]) (st' := [.int ((a3 >>> (a6 &&& 31)) &&& (1 : Int32))]) (mem' := (mk x y)) 5 rfl ?_
      refine mS_if0 rfl (fun _ => ?_) (fun _ => ?_)
      · refine mS_steps (pc' := 22) (ls' := [.ref 223, mU, .int a2, .int a3, .int a4, .int a5, .int (a6 + (1 : Int32))]) (st' := []) (mem' := (mk x y)) 2 rfl ?_
        exact ih a5 (a6 + (1 : Int32))
      · refine mS_steps (pc' := 43) (ls' := [.ref 223, mU, .int a2, .int a3, .int a4, .int a5, .int a6]) (st' := [.int a6, .ref 223, .int a5]) (mem' := (mk x y)) 3 rfl ?_
        refine mS_ald (b := 0) (n := 8) (z := (x.1 223 a6.toNatClampNeg)) rfl (by decide) rfl (by decide) rfl (fun _ => ?_)
        refine mS_steps (pc' := 22) (ls' := [.ref 223, mU, .int a2, .int a3, .int a4, .int (a5 ||| ((x.1 223 a6.toNatClampNeg) &&& a2)), .int (a6 + (1 : Int32))]) (st' := []) (mem' := (mk x y)) 6 rfl ?_
        exact ih (a5 ||| ((x.1 223 a6.toNatClampNeg) &&& a2)) (a6 + (1 : Int32))
set_option maxRecDepth 20000 in
set_option maxHeartbeats 2000000 in
theorem f_X10_reach_L9_223_snd {fm : Value} {L : Nat} {xs : Nat → Int32} (a2 : Int32) (x : mX) (y : mY) : ∀ (n : Nat) (a3 : Int32) (a4 : Int32), mS fm L xs (fun r : Int32 => (.int r, (mk x y))) pg_X10_reach 9 [.ref 223, mU, .int a2, .int a3, .int a4, mU, mU] [] (mk x y) (f_X10_reach_L9 223 a2 n a3 a4 x) := by
  intro n
  induction n with
  | zero => intro a3 a4; exact mS_none
  | succ n ih =>
    intro a3 a4
    rw [f_X10_reach_L9]
    refine mS_steps (pc' := 13) (ls' := [.ref 223, mU, .int a2, .int a3, .int a4, mU, mU]) (st' := [.int (8 : Int32), .int a4]) (mem' := (mk x y)) 2 rfl ?_
    refine mS_ic3 rfl (fun _ => ?_) (fun _ => ?_)
    · refine mS_steps (pc' := 74) (ls' := [.ref 223, mU, .int a2, .int a3, .int a4, mU, mU]) (st' := [.int a3]) (mem' := (mk x y)) 1 rfl ?_
      exact mS_reti ⟨_, _, _, _, _, rfl, rfl⟩ rfl
    · refine mS_steps (pc' := 22) (ls' := [.ref 223, mU, .int a2, .int a3, .int a4, .int a3, .int (0 : Int32)]) (st' := []) (mem' := (mk x y)) 4 rfl ?_
      refine f_X10_reach_L22_223_snd a2 a3 a4 x y _ ?_ mF a3 (0 : Int32)
      · intro v1
        refine mS_steps (pc' := 58) (ls' := [.ref 223, mU, .int a2, .int a3, .int a4, .int v1, mU]) (st' := [.int a3, .int v1]) (mem' := (mk x y)) 2 rfl ?_
        refine mS_ic1 rfl (fun _ => ?_) (fun _ => ?_)
        · refine mS_steps (pc' := 74) (ls' := [.ref 223, mU, .int a2, .int a3, .int a4, .int v1, mU]) (st' := [.int a3]) (mem' := (mk x y)) 2 rfl ?_
          exact mS_reti ⟨_, _, _, _, _, rfl, rfl⟩ rfl
        · refine mS_steps (pc' := 9) (ls' := [.ref 223, mU, .int a2, .int v1, .int (a4 + (1 : Int32)), .int v1, mU]) (st' := []) (mem' := (mk x y)) 4 rfl ?_
          refine mS_forget [.ref 223, mU, .int a2, .int v1, .int (a4 + (1 : Int32)), mU, mU] ⟨Or.inr rfl, Or.inl rfl, Or.inr rfl, Or.inr rfl, Or.inr rfl, Or.inl rfl, Or.inl rfl, trivial⟩ ?_
          exact ih v1 (a4 + (1 : Int32))
set_option maxRecDepth 20000 in
set_option maxHeartbeats 2000000 in
theorem f_X10_reach_223_snd {fm : Value} {L : Nat} {xs : Nat → Int32} (p1 : Int32) (p2 : Int32) (x : mX) (y : mY) : mS fm L xs (fun r : Int32 => (.int r, (mk x y))) pg_X10_reach 0 (m_entry [.ref 223, .int p1, .int p2] 7) [] (mk x y) ((f_X10_reach 223 p1 p2 x)) := by
  unfold f_X10_reach
  refine mS_steps (pc' := 0) (ls' := [.ref 223, .int p1, .int p2, mU, mU, mU, mU]) (st' := []) (mem' := (mk x y)) 0 rfl ?_
  refine mS_steps (pc' := 9) (ls' := [.ref 223, .int p1, .int p2, .int (((1 : Int32) <<< (p1 &&& 31)) &&& p2), .int (0 : Int32), mU, mU]) (st' := []) (mem' := (mk x y)) 8 rfl ?_
  refine mS_forget [.ref 223, mU, .int p2, .int (((1 : Int32) <<< (p1 &&& 31)) &&& p2), .int (0 : Int32), mU, mU] ⟨Or.inr rfl, Or.inl rfl, Or.inr rfl, Or.inr rfl, Or.inr rfl, Or.inl rfl, Or.inl rfl, trivial⟩ ?_
  refine f_X10_reach_L9_223_snd p2 x y mF (((1 : Int32) <<< (p1 &&& 31)) &&& p2) (0 : Int32)
set_option maxRecDepth 20000 in
set_option maxHeartbeats 2000000 in
theorem f_X10_reach_L22_259_snd {fm : Value} {L : Nat} {xs : Nat → Int32} (a2 : Int32) (a3 : Int32) (a4 : Int32) (x : mX) (y : mY) (k55 : Int32 → Option Int32) (hk55 : ∀ (b5 : Int32), mS fm L xs (fun r : Int32 => (.int r, (mk x y))) pg_X10_reach 55 [.ref 259, mU, .int a2, .int a3, .int a4, .int b5, mU] [] (mk x y) (k55 b5)) : ∀ (n : Nat) (a5 : Int32) (a6 : Int32), mS fm L xs (fun r : Int32 => (.int r, (mk x y))) pg_X10_reach 22 [.ref 259, mU, .int a2, .int a3, .int a4, .int a5, .int a6] [] (mk x y) (f_X10_reach_L22 259 a2 a3 n a5 a6 x k55) := by
  intro n
  induction n with
  | zero => intro a5 a6; exact mS_none
  | succ n ih =>
    intro a5 a6
    rw [f_X10_reach_L22]
    refine mS_steps (pc' := 26) (ls' := [.ref 259, mU, .int a2, .int a3, .int a4, .int a5, .int a6]) (st' := [.int (8 : Int32), .int a6]) (mem' := (mk x y)) 2 rfl ?_
    refine mS_ic3 rfl (fun _ => ?_) (fun _ => ?_)
    · refine mS_forget [.ref 259, mU, .int a2, .int a3, .int a4, .int a5, mU] ⟨Or.inr rfl, Or.inl rfl, Or.inr rfl, Or.inr rfl, Or.inr rfl, Or.inr rfl, Or.inl rfl, trivial⟩ ?_
      exact hk55 a5
    · refine mS_steps (pc' := 35) (ls' := [.ref 259, mU, .int a2, .int a3, .int a4, .int a5, .int a6]) (st' := [.int ((a3 >>> (a6 &&& 31)) &&& (1 : Int32))]) (mem' := (mk x y)) 5 rfl ?_
      refine mS_if0 rfl (fun _ => ?_) (fun _ => ?_)
      · refine mS_steps (pc' := 22) (ls' := [.ref 259, mU, .int a2, .int a3, .int a4, .int a5, .int (a6 + (1 : Int32))]) (st' := []) (mem' := (mk x y)) 2 rfl ?_
        exact ih a5 (a6 + (1 : Int32))
      · refine mS_steps (pc' := 43) (ls' := [.ref 259, mU, .int a2, .int a3, .int a4, .int a5, .int a6]) (st' := [.int a6, .ref 259, .int a5]) (mem' := (mk x y)) 3 rfl ?_
        refine mS_ald (b := 0) (n := 8) (z := (x.1 259 a6.toNatClampNeg)) rfl (by decide) rfl (by decide) rfl (fun _ => ?_)
        refine mS_steps (pc' := 22) (ls' := [.ref 259, mU, .int a2, .int a3, .int a4, .int (a5 ||| ((x.1 259 a6.toNatClampNeg) &&& a2)), .int (a6 + (1 : Int32))]) (st' := []) (mem' := (mk x y)) 6 rfl ?_
        exact ih (a5 ||| ((x.1 259 a6.toNatClampNeg) &&& a2)) (a6 + (1 : Int32))
set_option maxRecDepth 20000 in
set_option maxHeartbeats 2000000 in
theorem f_X10_reach_L9_259_snd {fm : Value} {L : Nat} {xs : Nat → Int32} (a2 : Int32) (x : mX) (y : mY) : ∀ (n : Nat) (a3 : Int32) (a4 : Int32), mS fm L xs (fun r : Int32 => (.int r, (mk x y))) pg_X10_reach 9 [.ref 259, mU, .int a2, .int a3, .int a4, mU, mU] [] (mk x y) (f_X10_reach_L9 259 a2 n a3 a4 x) := by
  intro n
  induction n with
  | zero => intro a3 a4; exact mS_none
  | succ n ih =>
    intro a3 a4
    rw [f_X10_reach_L9]
    refine mS_steps (pc' := 13) (ls' := [.ref 259, mU, .int a2, .int a3, .int a4, mU, mU]) (st' := [.int (8 : Int32), .int a4]) (mem' := (mk x y)) 2 rfl ?_
    refine mS_ic3 rfl (fun _ => ?_) (fun _ => ?_)
    · refine mS_steps (pc' := 74) (ls' := [.ref 259, mU, .int a2, .int a3, .int a4, mU, mU]) (st' := [.int a3]) (mem' := (mk x y)) 1 rfl ?_
      exact mS_reti ⟨_, _, _, _, _, rfl, rfl⟩ rfl
    · refine mS_steps (pc' := 22) (ls' := [.ref 259, mU, .int a2, .int a3, .int a4, .int a3, .int (0 : Int32)]) (st' := []) (mem' := (mk x y)) 4 rfl ?_
      refine f_X10_reach_L22_259_snd a2 a3 a4 x y _ ?_ mF a3 (0 : Int32)
      · intro v1
        refine mS_steps (pc' := 58) (ls' := [.ref 259, mU, .int a2, .int a3, .int a4, .int v1, mU]) (st' := [.int a3, .int v1]) (mem' := (mk x y)) 2 rfl ?_
        refine mS_ic1 rfl (fun _ => ?_) (fun _ => ?_)
        · refine mS_steps (pc' := 74) (ls' := [.ref 259, mU, .int a2, .int a3, .int a4, .int v1, mU]) (st' := [.int a3]) (mem' := (mk x y)) 2 rfl ?_
          exact mS_reti ⟨_, _, _, _, _, rfl, rfl⟩ rfl
        · refine mS_steps (pc' := 9) (ls' := [.ref 259, mU, .int a2, .int v1, .int (a4 + (1 : Int32)), .int v1, mU]) (st' := []) (mem' := (mk x y)) 4 rfl ?_
          refine mS_forget [.ref 259, mU, .int a2, .int v1, .int (a4 + (1 : Int32)), mU, mU] ⟨Or.inr rfl, Or.inl rfl, Or.inr rfl, Or.inr rfl, Or.inr rfl, Or.inl rfl, Or.inl rfl, trivial⟩ ?_
          exact ih v1 (a4 + (1 : Int32))
set_option maxRecDepth 20000 in
set_option maxHeartbeats 2000000 in
theorem f_X10_reach_259_snd {fm : Value} {L : Nat} {xs : Nat → Int32} (p1 : Int32) (p2 : Int32) (x : mX) (y : mY) : mS fm L xs (fun r : Int32 => (.int r, (mk x y))) pg_X10_reach 0 (m_entry [.ref 259, .int p1, .int p2] 7) [] (mk x y) ((f_X10_reach 259 p1 p2 x)) := by
  unfold f_X10_reach
  refine mS_steps (pc' := 0) (ls' := [.ref 259, .int p1, .int p2, mU, mU, mU, mU]) (st' := []) (mem' := (mk x y)) 0 rfl ?_
  refine mS_steps (pc' := 9) (ls' := [.ref 259, .int p1, .int p2, .int (((1 : Int32) <<< (p1 &&& 31)) &&& p2), .int (0 : Int32), mU, mU]) (st' := []) (mem' := (mk x y)) 8 rfl ?_
  refine mS_forget [.ref 259, mU, .int p2, .int (((1 : Int32) <<< (p1 &&& 31)) &&& p2), .int (0 : Int32), mU, mU] ⟨Or.inr rfl, Or.inl rfl, Or.inr rfl, Or.inr rfl, Or.inr rfl, Or.inl rfl, Or.inl rfl, trivial⟩ ?_
  refine f_X10_reach_L9_259_snd p2 x y mF (((1 : Int32) <<< (p1 &&& 31)) &&& p2) (0 : Int32)
def f_X10_parts_L3 (r0 : Nat) (r1 : Nat) (a3 : Int32) : Nat → Int32 → mX → (mX → Option mX) → Option mX
  | 0, _, _, _ => none
  | n + 1, a4, x, k23 => (if (8 : Int32) ≤ a4 then (k23 x) else (if m_in (a3 + a4) (mLen r1) = true then (m_let (m_xs x r1 (a3 + a4).toNatClampNeg (0 : Int32)) fun x1 => (f_X10_parts_L3 r0 r1 a3 n (a4 + (1 : Int32)) x1 k23)) else none))
def f_X10_parts_L63 (r0 : Nat) (r1 : Nat) (a3 : Int32) (a5 : Int32) : Nat → Int32 → mX → (mX → Option mX) → Option mX
  | 0, _, _, _ => none
  | n + 1, a6, x, k94 => (if (8 : Int32) ≤ a6 then (k94 x) else (if (f_X10_has a5 a6) = 0 then (f_X10_parts_L63 r0 r1 a3 a5 n (a6 + (1 : Int32)) x k94) else (if m_in (a3 + a6) (mLen r1) = true then (m_let (m_xs x r1 (a3 + a6).toNatClampNeg a5) fun x4 => (f_X10_parts_L63 r0 r1 a3 a5 n (a6 + (1 : Int32)) x4 k94)) else none)))
def f_X10_parts_L26 (r0 : Nat) (r1 : Nat) (a1 : Int32) (a3 : Int32) : Nat → Int32 → mX → Option mX
  | 0, _, _ => none
  | n + 1, a4, x => (if (8 : Int32) ≤ a4 then (some x) else (if (f_X10_has a1 a4) = 0 then (f_X10_parts_L26 r0 r1 a1 a3 n (a4 + (1 : Int32)) x) else (if m_in (a3 + a4) (mLen r1) = true then (if (x.1 r1 (a3 + a4).toNatClampNeg) = 0 then ((f_X10_reach r0 a4 a1 x).bind fun q3 => (f_X10_parts_L63 r0 r1 a3 q3 mF (0 : Int32) x (fun x5 => (f_X10_parts_L26 r0 r1 a1 a3 n (a4 + (1 : Int32)) x5)))) else (f_X10_parts_L26 r0 r1 a1 a3 n (a4 + (1 : Int32)) x)) else none)))
def f_X10_parts (r0 : Nat) (p1 : Int32) (r1 : Nat) (p3 : Int32) (x : mX) : Option mX := (f_X10_parts_L3 r0 r1 p3 mF (0 : Int32) x (fun x2 => (f_X10_parts_L26 r0 r1 p1 p3 mF (0 : Int32) x2)))
set_option maxRecDepth 20000 in
set_option maxHeartbeats 2000000 in
theorem f_X10_parts_L3_229_230_snd {fm : Value} {L : Nat} {xs : Nat → Int32} (a1 : Int32) (a3 : Int32) (y : mY) (k23 : mX → Option mX) (hk23 : ∀ (z0 : mX), mS fm L xs (fun r : mX => (mU, mk r y)) pg_X10_parts 23 [.ref 229, .int a1, .ref 230, .int a3, mU, mU, mU] [] (mk z0 y) (k23 z0)) : ∀ (n : Nat) (a4 : Int32) (x : mX), mS fm L xs (fun r : mX => (mU, mk r y)) pg_X10_parts 3 [.ref 229, .int a1, .ref 230, .int a3, .int a4, mU, mU] [] (mk x y) (f_X10_parts_L3 229 230 a3 n a4 x k23) := by
  intro n
  induction n with
  | zero => intro a4 x; exact mS_none
  | succ n ih =>
    intro a4 x
    rw [f_X10_parts_L3]
    refine mS_steps (pc' := 7) (ls' := [.ref 229, .int a1, .ref 230, .int a3, .int a4, mU, mU]) (st' := [.int (8 : Int32), .int a4]) (mem' := (mk x y)) 2 rfl ?_
    refine mS_ic3 rfl (fun _ => ?_) (fun _ => ?_)
    · refine mS_forget [.ref 229, .int a1, .ref 230, .int a3, mU, mU, mU] ⟨Or.inr rfl, Or.inr rfl, Or.inr rfl, Or.inr rfl, Or.inl rfl, Or.inl rfl, Or.inl rfl, trivial⟩ ?_
      exact hk23 x
    · refine mS_steps (pc' := 16) (ls' := [.ref 229, .int a1, .ref 230, .int a3, .int a4, mU, mU]) (st' := [.int (0 : Int32), .int (a3 + a4), .ref 230]) (mem' := (mk x y)) 5 rfl ?_
      refine mS_ast0x (n := 8) rfl rfl (by decide) (fun _ => ?_)
      refine mS_letx (fun x1 => ?_)
      refine mS_steps (pc' := 3) (ls' := [.ref 229, .int a1, .ref 230, .int a3, .int (a4 + (1 : Int32)), mU, mU]) (st' := []) (mem' := (mk x1 y)) 2 rfl ?_
      exact ih (a4 + (1 : Int32)) x1
set_option maxRecDepth 20000 in
set_option maxHeartbeats 2000000 in
theorem f_X10_parts_L63_229_230_snd {fm : Value} {L : Nat} {xs : Nat → Int32} (a1 : Int32) (a3 : Int32) (a4 : Int32) (a5 : Int32) (y : mY) (k94 : mX → Option mX) (hk94 : ∀ (z0 : mX), mS fm L xs (fun r : mX => (mU, mk r y)) pg_X10_parts 94 [.ref 229, .int a1, .ref 230, .int a3, .int a4, mU, mU] [] (mk z0 y) (k94 z0)) : ∀ (n : Nat) (a6 : Int32) (x : mX), mS fm L xs (fun r : mX => (mU, mk r y)) pg_X10_parts 63 [.ref 229, .int a1, .ref 230, .int a3, .int a4, .int a5, .int a6] [] (mk x y) (f_X10_parts_L63 229 230 a3 a5 n a6 x k94) := by
  intro n
  induction n with
  | zero => intro a6 x; exact mS_none
  | succ n ih =>
    intro a6 x
    rw [f_X10_parts_L63]
    refine mS_steps (pc' := 67) (ls' := [.ref 229, .int a1, .ref 230, .int a3, .int a4, .int a5, .int a6]) (st' := [.int (8 : Int32), .int a6]) (mem' := (mk x y)) 2 rfl ?_
    refine mS_ic3 rfl (fun _ => ?_) (fun _ => ?_)
    · refine mS_forget [.ref 229, .int a1, .ref 230, .int a3, .int a4, mU, mU] ⟨Or.inr rfl, Or.inr rfl, Or.inr rfl, Or.inr rfl, Or.inr rfl, Or.inl rfl, Or.inl rfl, trivial⟩ ?_
      exact hk94 x
    · refine mS_steps (pc' := 74) (ls' := [.ref 229, .int a1, .ref 230, .int a3, .int a4, .int a5, .int a6]) (st' := [.int a6, .int a5]) (mem' := (mk x y)) 2 rfl ?_
      refine mS_call (q := (f_X10_has a5 a6)) 57 2 [.int a5, .int a6] [] rfl rfl rfl ⟨_, _, _, rfl, rfl⟩ (Nat.le_of_ble_eq_true rfl) (Nat.le_of_ble_eq_true rfl) rfl (f_X10_has_snd a5 a6 (mk x y)) ?_
      refine mS_steps (pc' := 77) (ls' := [.ref 229, .int a1, .ref 230, .int a3, .int a4, .int a5, .int a6]) (st' := [.int (f_X10_has a5 a6)]) (mem' := (mk x y)) 0 rfl ?_
      refine mS_if0 rfl (fun _ => ?_) (fun _ => ?_)
      · refine mS_steps (pc' := 63) (ls' := [.ref 229, .int a1, .ref 230, .int a3, .int a4, .int a5, .int (a6 + (1 : Int32))]) (st' := []) (mem' := (mk x y)) 2 rfl ?_
        exact ih (a6 + (1 : Int32)) x
      · refine mS_steps (pc' := 87) (ls' := [.ref 229, .int a1, .ref 230, .int a3, .int a4, .int a5, .int a6]) (st' := [.int a5, .int (a3 + a6), .ref 230]) (mem' := (mk x y)) 5 rfl ?_
        refine mS_ast0x (n := 8) rfl rfl (by decide) (fun _ => ?_)
        refine mS_letx (fun x4 => ?_)
        refine mS_steps (pc' := 63) (ls' := [.ref 229, .int a1, .ref 230, .int a3, .int a4, .int a5, .int (a6 + (1 : Int32))]) (st' := []) (mem' := (mk x4 y)) 2 rfl ?_
        exact ih (a6 + (1 : Int32)) x4
set_option maxRecDepth 20000 in
set_option maxHeartbeats 2000000 in
theorem f_X10_parts_L26_229_230_snd {fm : Value} {L : Nat} {xs : Nat → Int32} (a1 : Int32) (a3 : Int32) (y : mY) : ∀ (n : Nat) (a4 : Int32) (x : mX), mS fm L xs (fun r : mX => (mU, mk r y)) pg_X10_parts 26 [.ref 229, .int a1, .ref 230, .int a3, .int a4, mU, mU] [] (mk x y) (f_X10_parts_L26 229 230 a1 a3 n a4 x) := by
  intro n
  induction n with
  | zero => intro a4 x; exact mS_none
  | succ n ih =>
    intro a4 x
    rw [f_X10_parts_L26]
    refine mS_steps (pc' := 30) (ls' := [.ref 229, .int a1, .ref 230, .int a3, .int a4, mU, mU]) (st' := [.int (8 : Int32), .int a4]) (mem' := (mk x y)) 2 rfl ?_
    refine mS_ic3 rfl (fun _ => ?_) (fun _ => ?_)
    · exact mS_retv ⟨_, _, _, _, _, rfl⟩ rfl
    · refine mS_steps (pc' := 36) (ls' := [.ref 229, .int a1, .ref 230, .int a3, .int a4, mU, mU]) (st' := [.int a4, .int a1]) (mem' := (mk x y)) 2 rfl ?_
      refine mS_call (q := (f_X10_has a1 a4)) 57 2 [.int a1, .int a4] [] rfl rfl rfl ⟨_, _, _, rfl, rfl⟩ (Nat.le_of_ble_eq_true rfl) (Nat.le_of_ble_eq_true rfl) rfl (f_X10_has_snd a1 a4 (mk x y)) ?_
      refine mS_steps (pc' := 39) (ls' := [.ref 229, .int a1, .ref 230, .int a3, .int a4, mU, mU]) (st' := [.int (f_X10_has a1 a4)]) (mem' := (mk x y)) 0 rfl ?_
      refine mS_if0 rfl (fun _ => ?_) (fun _ => ?_)
      · refine mS_steps (pc' := 26) (ls' := [.ref 229, .int a1, .ref 230, .int a3, .int (a4 + (1 : Int32)), mU, mU]) (st' := []) (mem' := (mk x y)) 2 rfl ?_
        exact ih (a4 + (1 : Int32)) x
      · refine mS_steps (pc' := 47) (ls' := [.ref 229, .int a1, .ref 230, .int a3, .int a4, mU, mU]) (st' := [.int (a3 + a4), .ref 230]) (mem' := (mk x y)) 4 rfl ?_
        refine mS_ald (b := 0) (n := 8) (z := (x.1 230 (a3 + a4).toNatClampNeg)) rfl (by decide) rfl (by decide) rfl (fun _ => ?_)
        refine mS_if1 rfl (fun _ => ?_) (fun _ => ?_)
        · refine mS_steps (pc' := 55) (ls' := [.ref 229, .int a1, .ref 230, .int a3, .int a4, mU, mU]) (st' := [.int a1, .int a4, .ref 229]) (mem' := (mk x y)) 3 rfl ?_
          refine mS_bind (fun q3 hq3 => mS_call 112 3 [.ref 229, .int a4, .int a1] [] rfl rfl rfl ⟨_, _, _, rfl, rfl⟩ (Nat.le_of_ble_eq_true rfl) (Nat.le_of_ble_eq_true rfl) hq3 (f_X10_reach_229_snd a4 a1 x y) ?_)
          refine mS_steps (pc' := 63) (ls' := [.ref 229, .int a1, .ref 230, .int a3, .int a4, .int q3, .int (0 : Int32)]) (st' := []) (mem' := (mk x y)) 3 rfl ?_
          refine f_X10_parts_L63_229_230_snd a1 a3 a4 q3 y _ ?_ mF (0 : Int32) x
          · intro x5
            refine mS_steps (pc' := 26) (ls' := [.ref 229, .int a1, .ref 230, .int a3, .int (a4 + (1 : Int32)), mU, mU]) (st' := []) (mem' := (mk x5 y)) 2 rfl ?_
            exact ih (a4 + (1 : Int32)) x5
        · refine mS_steps (pc' := 26) (ls' := [.ref 229, .int a1, .ref 230, .int a3, .int (a4 + (1 : Int32)), mU, mU]) (st' := []) (mem' := (mk x y)) 2 rfl ?_
          exact ih (a4 + (1 : Int32)) x
set_option maxRecDepth 20000 in
set_option maxHeartbeats 2000000 in
theorem f_X10_parts_229_230_snd {fm : Value} {L : Nat} {xs : Nat → Int32} (p1 : Int32) (p3 : Int32) (x : mX) (y : mY) : mS fm L xs (fun r : mX => (mU, mk r y)) pg_X10_parts 0 (m_entry [.ref 229, .int p1, .ref 230, .int p3] 7) [] (mk x y) ((f_X10_parts 229 p1 230 p3 x)) := by
  unfold f_X10_parts
  refine mS_steps (pc' := 0) (ls' := [.ref 229, .int p1, .ref 230, .int p3, mU, mU, mU]) (st' := []) (mem' := (mk x y)) 0 rfl ?_
  refine mS_steps (pc' := 3) (ls' := [.ref 229, .int p1, .ref 230, .int p3, .int (0 : Int32), mU, mU]) (st' := []) (mem' := (mk x y)) 2 rfl ?_
  refine f_X10_parts_L3_229_230_snd p1 p3 y _ ?_ mF (0 : Int32) x
  · intro x2
    refine mS_steps (pc' := 26) (ls' := [.ref 229, .int p1, .ref 230, .int p3, .int (0 : Int32), mU, mU]) (st' := []) (mem' := (mk x2 y)) 2 rfl ?_
    refine f_X10_parts_L26_229_230_snd p1 p3 y mF (0 : Int32) x2
set_option maxRecDepth 20000 in
set_option maxHeartbeats 2000000 in
theorem f_X10_parts_L3_229_232_snd {fm : Value} {L : Nat} {xs : Nat → Int32} (a1 : Int32) (a3 : Int32) (y : mY) (k23 : mX → Option mX) (hk23 : ∀ (z0 : mX), mS fm L xs (fun r : mX => (mU, mk r y)) pg_X10_parts 23 [.ref 229, .int a1, .ref 232, .int a3, mU, mU, mU] [] (mk z0 y) (k23 z0)) : ∀ (n : Nat) (a4 : Int32) (x : mX), mS fm L xs (fun r : mX => (mU, mk r y)) pg_X10_parts 3 [.ref 229, .int a1, .ref 232, .int a3, .int a4, mU, mU] [] (mk x y) (f_X10_parts_L3 229 232 a3 n a4 x k23) := by
  intro n
  induction n with
  | zero => intro a4 x; exact mS_none
  | succ n ih =>
    intro a4 x
    rw [f_X10_parts_L3]
    refine mS_steps (pc' := 7) (ls' := [.ref 229, .int a1, .ref 232, .int a3, .int a4, mU, mU]) (st' := [.int (8 : Int32), .int a4]) (mem' := (mk x y)) 2 rfl ?_
    refine mS_ic3 rfl (fun _ => ?_) (fun _ => ?_)
    · refine mS_forget [.ref 229, .int a1, .ref 232, .int a3, mU, mU, mU] ⟨Or.inr rfl, Or.inr rfl, Or.inr rfl, Or.inr rfl, Or.inl rfl, Or.inl rfl, Or.inl rfl, trivial⟩ ?_
      exact hk23 x
    · refine mS_steps (pc' := 16) (ls' := [.ref 229, .int a1, .ref 232, .int a3, .int a4, mU, mU]) (st' := [.int (0 : Int32), .int (a3 + a4), .ref 232]) (mem' := (mk x y)) 5 rfl ?_
      refine mS_ast0x (n := 64) rfl rfl (by decide) (fun _ => ?_)
      refine mS_letx (fun x1 => ?_)
      refine mS_steps (pc' := 3) (ls' := [.ref 229, .int a1, .ref 232, .int a3, .int (a4 + (1 : Int32)), mU, mU]) (st' := []) (mem' := (mk x1 y)) 2 rfl ?_
      exact ih (a4 + (1 : Int32)) x1
set_option maxRecDepth 20000 in
set_option maxHeartbeats 2000000 in
theorem f_X10_parts_L63_229_232_snd {fm : Value} {L : Nat} {xs : Nat → Int32} (a1 : Int32) (a3 : Int32) (a4 : Int32) (a5 : Int32) (y : mY) (k94 : mX → Option mX) (hk94 : ∀ (z0 : mX), mS fm L xs (fun r : mX => (mU, mk r y)) pg_X10_parts 94 [.ref 229, .int a1, .ref 232, .int a3, .int a4, mU, mU] [] (mk z0 y) (k94 z0)) : ∀ (n : Nat) (a6 : Int32) (x : mX), mS fm L xs (fun r : mX => (mU, mk r y)) pg_X10_parts 63 [.ref 229, .int a1, .ref 232, .int a3, .int a4, .int a5, .int a6] [] (mk x y) (f_X10_parts_L63 229 232 a3 a5 n a6 x k94) := by
  intro n
  induction n with
  | zero => intro a6 x; exact mS_none
  | succ n ih =>
    intro a6 x
    rw [f_X10_parts_L63]
    refine mS_steps (pc' := 67) (ls' := [.ref 229, .int a1, .ref 232, .int a3, .int a4, .int a5, .int a6]) (st' := [.int (8 : Int32), .int a6]) (mem' := (mk x y)) 2 rfl ?_
    refine mS_ic3 rfl (fun _ => ?_) (fun _ => ?_)
    · refine mS_forget [.ref 229, .int a1, .ref 232, .int a3, .int a4, mU, mU] ⟨Or.inr rfl, Or.inr rfl, Or.inr rfl, Or.inr rfl, Or.inr rfl, Or.inl rfl, Or.inl rfl, trivial⟩ ?_
      exact hk94 x
    · refine mS_steps (pc' := 74) (ls' := [.ref 229, .int a1, .ref 232, .int a3, .int a4, .int a5, .int a6]) (st' := [.int a6, .int a5]) (mem' := (mk x y)) 2 rfl ?_
      refine mS_call (q := (f_X10_has a5 a6)) 57 2 [.int a5, .int a6] [] rfl rfl rfl ⟨_, _, _, rfl, rfl⟩ (Nat.le_of_ble_eq_true rfl) (Nat.le_of_ble_eq_true rfl) rfl (f_X10_has_snd a5 a6 (mk x y)) ?_
      refine mS_steps (pc' := 77) (ls' := [.ref 229, .int a1, .ref 232, .int a3, .int a4, .int a5, .int a6]) (st' := [.int (f_X10_has a5 a6)]) (mem' := (mk x y)) 0 rfl ?_
      refine mS_if0 rfl (fun _ => ?_) (fun _ => ?_)
      · refine mS_steps (pc' := 63) (ls' := [.ref 229, .int a1, .ref 232, .int a3, .int a4, .int a5, .int (a6 + (1 : Int32))]) (st' := []) (mem' := (mk x y)) 2 rfl ?_
        exact ih (a6 + (1 : Int32)) x
      · refine mS_steps (pc' := 87) (ls' := [.ref 229, .int a1, .ref 232, .int a3, .int a4, .int a5, .int a6]) (st' := [.int a5, .int (a3 + a6), .ref 232]) (mem' := (mk x y)) 5 rfl ?_
        refine mS_ast0x (n := 64) rfl rfl (by decide) (fun _ => ?_)
        refine mS_letx (fun x4 => ?_)
        refine mS_steps (pc' := 63) (ls' := [.ref 229, .int a1, .ref 232, .int a3, .int a4, .int a5, .int (a6 + (1 : Int32))]) (st' := []) (mem' := (mk x4 y)) 2 rfl ?_
        exact ih (a6 + (1 : Int32)) x4
set_option maxRecDepth 20000 in
set_option maxHeartbeats 2000000 in
theorem f_X10_parts_L26_229_232_snd {fm : Value} {L : Nat} {xs : Nat → Int32} (a1 : Int32) (a3 : Int32) (y : mY) : ∀ (n : Nat) (a4 : Int32) (x : mX), mS fm L xs (fun r : mX => (mU, mk r y)) pg_X10_parts 26 [.ref 229, .int a1, .ref 232, .int a3, .int a4, mU, mU] [] (mk x y) (f_X10_parts_L26 229 232 a1 a3 n a4 x) := by
  intro n
  induction n with
  | zero => intro a4 x; exact mS_none
  | succ n ih =>
    intro a4 x
    rw [f_X10_parts_L26]
    refine mS_steps (pc' := 30) (ls' := [.ref 229, .int a1, .ref 232, .int a3, .int a4, mU, mU]) (st' := [.int (8 : Int32), .int a4]) (mem' := (mk x y)) 2 rfl ?_
    refine mS_ic3 rfl (fun _ => ?_) (fun _ => ?_)
    · exact mS_retv ⟨_, _, _, _, _, rfl⟩ rfl
    · refine mS_steps (pc' := 36) (ls' := [.ref 229, .int a1, .ref 232, .int a3, .int a4, mU, mU]) (st' := [.int a4, .int a1]) (mem' := (mk x y)) 2 rfl ?_
      refine mS_call (q := (f_X10_has a1 a4)) 57 2 [.int a1, .int a4] [] rfl rfl rfl ⟨_, _, _, rfl, rfl⟩ (Nat.le_of_ble_eq_true rfl) (Nat.le_of_ble_eq_true rfl) rfl (f_X10_has_snd a1 a4 (mk x y)) ?_
      refine mS_steps (pc' := 39) (ls' := [.ref 229, .int a1, .ref 232, .int a3, .int a4, mU, mU]) (st' := [.int (f_X10_has a1 a4)]) (mem' := (mk x y)) 0 rfl ?_
      refine mS_if0 rfl (fun _ => ?_) (fun _ => ?_)
      · refine mS_steps (pc' := 26) (ls' := [.ref 229, .int a1, .ref 232, .int a3, .int (a4 + (1 : Int32)), mU, mU]) (st' := []) (mem' := (mk x y)) 2 rfl ?_
        exact ih (a4 + (1 : Int32)) x
      · refine mS_steps (pc' := 47) (ls' := [.ref 229, .int a1, .ref 232, .int a3, .int a4, mU, mU]) (st' := [.int (a3 + a4), .ref 232]) (mem' := (mk x y)) 4 rfl ?_
        refine mS_ald (b := 0) (n := 64) (z := (x.1 232 (a3 + a4).toNatClampNeg)) rfl (by decide) rfl (by decide) rfl (fun _ => ?_)
        refine mS_if1 rfl (fun _ => ?_) (fun _ => ?_)
        · refine mS_steps (pc' := 55) (ls' := [.ref 229, .int a1, .ref 232, .int a3, .int a4, mU, mU]) (st' := [.int a1, .int a4, .ref 229]) (mem' := (mk x y)) 3 rfl ?_
          refine mS_bind (fun q3 hq3 => mS_call 112 3 [.ref 229, .int a4, .int a1] [] rfl rfl rfl ⟨_, _, _, rfl, rfl⟩ (Nat.le_of_ble_eq_true rfl) (Nat.le_of_ble_eq_true rfl) hq3 (f_X10_reach_229_snd a4 a1 x y) ?_)
          refine mS_steps (pc' := 63) (ls' := [.ref 229, .int a1, .ref 232, .int a3, .int a4, .int q3, .int (0 : Int32)]) (st' := []) (mem' := (mk x y)) 3 rfl ?_
          refine f_X10_parts_L63_229_232_snd a1 a3 a4 q3 y _ ?_ mF (0 : Int32) x
          · intro x5
            refine mS_steps (pc' := 26) (ls' := [.ref 229, .int a1, .ref 232, .int a3, .int (a4 + (1 : Int32)), mU, mU]) (st' := []) (mem' := (mk x5 y)) 2 rfl ?_
            exact ih (a4 + (1 : Int32)) x5
        · refine mS_steps (pc' := 26) (ls' := [.ref 229, .int a1, .ref 232, .int a3, .int (a4 + (1 : Int32)), mU, mU]) (st' := []) (mem' := (mk x y)) 2 rfl ?_
          exact ih (a4 + (1 : Int32)) x
set_option maxRecDepth 20000 in
set_option maxHeartbeats 2000000 in
theorem f_X10_parts_229_232_snd {fm : Value} {L : Nat} {xs : Nat → Int32} (p1 : Int32) (p3 : Int32) (x : mX) (y : mY) : mS fm L xs (fun r : mX => (mU, mk r y)) pg_X10_parts 0 (m_entry [.ref 229, .int p1, .ref 232, .int p3] 7) [] (mk x y) ((f_X10_parts 229 p1 232 p3 x)) := by
  unfold f_X10_parts
  refine mS_steps (pc' := 0) (ls' := [.ref 229, .int p1, .ref 232, .int p3, mU, mU, mU]) (st' := []) (mem' := (mk x y)) 0 rfl ?_
  refine mS_steps (pc' := 3) (ls' := [.ref 229, .int p1, .ref 232, .int p3, .int (0 : Int32), mU, mU]) (st' := []) (mem' := (mk x y)) 2 rfl ?_
  refine f_X10_parts_L3_229_232_snd p1 p3 y _ ?_ mF (0 : Int32) x
  · intro x2
    refine mS_steps (pc' := 26) (ls' := [.ref 229, .int p1, .ref 232, .int p3, .int (0 : Int32), mU, mU]) (st' := []) (mem' := (mk x2 y)) 2 rfl ?_
    refine f_X10_parts_L26_229_232_snd p1 p3 y mF (0 : Int32) x2
set_option maxRecDepth 20000 in
set_option maxHeartbeats 2000000 in
theorem f_X10_parts_L3_223_224_snd {fm : Value} {L : Nat} {xs : Nat → Int32} (a1 : Int32) (a3 : Int32) (y : mY) (k23 : mX → Option mX) (hk23 : ∀ (z0 : mX), mS fm L xs (fun r : mX => (mU, mk r y)) pg_X10_parts 23 [.ref 223, .int a1, .ref 224, .int a3, mU, mU, mU] [] (mk z0 y) (k23 z0)) : ∀ (n : Nat) (a4 : Int32) (x : mX), mS fm L xs (fun r : mX => (mU, mk r y)) pg_X10_parts 3 [.ref 223, .int a1, .ref 224, .int a3, .int a4, mU, mU] [] (mk x y) (f_X10_parts_L3 223 224 a3 n a4 x k23) := by
  intro n
  induction n with
  | zero => intro a4 x; exact mS_none
  | succ n ih =>
    intro a4 x
    rw [f_X10_parts_L3]
    refine mS_steps (pc' := 7) (ls' := [.ref 223, .int a1, .ref 224, .int a3, .int a4, mU, mU]) (st' := [.int (8 : Int32), .int a4]) (mem' := (mk x y)) 2 rfl ?_
    refine mS_ic3 rfl (fun _ => ?_) (fun _ => ?_)
    · refine mS_forget [.ref 223, .int a1, .ref 224, .int a3, mU, mU, mU] ⟨Or.inr rfl, Or.inr rfl, Or.inr rfl, Or.inr rfl, Or.inl rfl, Or.inl rfl, Or.inl rfl, trivial⟩ ?_
      exact hk23 x
    · refine mS_steps (pc' := 16) (ls' := [.ref 223, .int a1, .ref 224, .int a3, .int a4, mU, mU]) (st' := [.int (0 : Int32), .int (a3 + a4), .ref 224]) (mem' := (mk x y)) 5 rfl ?_
      refine mS_ast0x (n := 8) rfl rfl (by decide) (fun _ => ?_)
      refine mS_letx (fun x1 => ?_)
      refine mS_steps (pc' := 3) (ls' := [.ref 223, .int a1, .ref 224, .int a3, .int (a4 + (1 : Int32)), mU, mU]) (st' := []) (mem' := (mk x1 y)) 2 rfl ?_
      exact ih (a4 + (1 : Int32)) x1
set_option maxRecDepth 20000 in
set_option maxHeartbeats 2000000 in
theorem f_X10_parts_L63_223_224_snd {fm : Value} {L : Nat} {xs : Nat → Int32} (a1 : Int32) (a3 : Int32) (a4 : Int32) (a5 : Int32) (y : mY) (k94 : mX → Option mX) (hk94 : ∀ (z0 : mX), mS fm L xs (fun r : mX => (mU, mk r y)) pg_X10_parts 94 [.ref 223, .int a1, .ref 224, .int a3, .int a4, mU, mU] [] (mk z0 y) (k94 z0)) : ∀ (n : Nat) (a6 : Int32) (x : mX), mS fm L xs (fun r : mX => (mU, mk r y)) pg_X10_parts 63 [.ref 223, .int a1, .ref 224, .int a3, .int a4, .int a5, .int a6] [] (mk x y) (f_X10_parts_L63 223 224 a3 a5 n a6 x k94) := by
  intro n
  induction n with
  | zero => intro a6 x; exact mS_none
  | succ n ih =>
    intro a6 x
    rw [f_X10_parts_L63]
    refine mS_steps (pc' := 67) (ls' := [.ref 223, .int a1, .ref 224, .int a3, .int a4, .int a5, .int a6]) (st' := [.int (8 : Int32), .int a6]) (mem' := (mk x y)) 2 rfl ?_
    refine mS_ic3 rfl (fun _ => ?_) (fun _ => ?_)
    · refine mS_forget [.ref 223, .int a1, .ref 224, .int a3, .int a4, mU, mU] ⟨Or.inr rfl, Or.inr rfl, Or.inr rfl, Or.inr rfl, Or.inr rfl, Or.inl rfl, Or.inl rfl, trivial⟩ ?_
      exact hk94 x
    · refine mS_steps (pc' := 74) (ls' := [.ref 223, .int a1, .ref 224, .int a3, .int a4, .int a5, .int a6]) (st' := [.int a6, .int a5]) (mem' := (mk x y)) 2 rfl ?_
      refine mS_call (q := (f_X10_has a5 a6)) 57 2 [.int a5, .int a6] [] rfl rfl rfl ⟨_, _, _, rfl, rfl⟩ (Nat.le_of_ble_eq_true rfl) (Nat.le_of_ble_eq_true rfl) rfl (f_X10_has_snd a5 a6 (mk x y)) ?_
      refine mS_steps (pc' := 77) (ls' := [.ref 223, .int a1, .ref 224, .int a3, .int a4, .int a5, .int a6]) (st' := [.int (f_X10_has a5 a6)]) (mem' := (mk x y)) 0 rfl ?_
      refine mS_if0 rfl (fun _ => ?_) (fun _ => ?_)
      · refine mS_steps (pc' := 63) (ls' := [.ref 223, .int a1, .ref 224, .int a3, .int a4, .int a5, .int (a6 + (1 : Int32))]) (st' := []) (mem' := (mk x y)) 2 rfl ?_
        exact ih (a6 + (1 : Int32)) x
      · refine mS_steps (pc' := 87) (ls' := [.ref 223, .int a1, .ref 224, .int a3, .int a4, .int a5, .int a6]) (st' := [.int a5, .int (a3 + a6), .ref 224]) (mem' := (mk x y)) 5 rfl ?_
        refine mS_ast0x (n := 8) rfl rfl (by decide) (fun _ => ?_)
        refine mS_letx (fun x4 => ?_)
        refine mS_steps (pc' := 63) (ls' := [.ref 223, .int a1, .ref 224, .int a3, .int a4, .int a5, .int (a6 + (1 : Int32))]) (st' := []) (mem' := (mk x4 y)) 2 rfl ?_
        exact ih (a6 + (1 : Int32)) x4
set_option maxRecDepth 20000 in
set_option maxHeartbeats 2000000 in
theorem f_X10_parts_L26_223_224_snd {fm : Value} {L : Nat} {xs : Nat → Int32} (a1 : Int32) (a3 : Int32) (y : mY) : ∀ (n : Nat) (a4 : Int32) (x : mX), mS fm L xs (fun r : mX => (mU, mk r y)) pg_X10_parts 26 [.ref 223, .int a1, .ref 224, .int a3, .int a4, mU, mU] [] (mk x y) (f_X10_parts_L26 223 224 a1 a3 n a4 x) := by
  intro n
  induction n with
  | zero => intro a4 x; exact mS_none
  | succ n ih =>
    intro a4 x
    rw [f_X10_parts_L26]
    refine mS_steps (pc' := 30) (ls' := [.ref 223, .int a1, .ref 224, .int a3, .int a4, mU, mU]) (st' := [.int (8 : Int32), .int a4]) (mem' := (mk x y)) 2 rfl ?_
    refine mS_ic3 rfl (fun _ => ?_) (fun _ => ?_)
    · exact mS_retv ⟨_, _, _, _, _, rfl⟩ rfl
    · refine mS_steps (pc' := 36) (ls' := [.ref 223, .int a1, .ref 224, .int a3, .int a4, mU, mU]) (st' := [.int a4, .int a1]) (mem' := (mk x y)) 2 rfl ?_
      refine mS_call (q := (f_X10_has a1 a4)) 57 2 [.int a1, .int a4] [] rfl rfl rfl ⟨_, _, _, rfl, rfl⟩ (Nat.le_of_ble_eq_true rfl) (Nat.le_of_ble_eq_true rfl) rfl (f_X10_has_snd a1 a4 (mk x y)) ?_
      refine mS_steps (pc' := 39) (ls' := [.ref 223, .int a1, .ref 224, .int a3, .int a4, mU, mU]) (st' := [.int (f_X10_has a1 a4)]) (mem' := (mk x y)) 0 rfl ?_
      refine mS_if0 rfl (fun _ => ?_) (fun _ => ?_)
      · refine mS_steps (pc' := 26) (ls' := [.ref 223, .int a1, .ref 224, .int a3, .int (a4 + (1 : Int32)), mU, mU]) (st' := []) (mem' := (mk x y)) 2 rfl ?_
        exact ih (a4 + (1 : Int32)) x
      · refine mS_steps (pc' := 47) (ls' := [.ref 223, .int a1, .ref 224, .int a3, .int a4, mU, mU]) (st' := [.int (a3 + a4), .ref 224]) (mem' := (mk x y)) 4 rfl ?_
        refine mS_ald (b := 0) (n := 8) (z := (x.1 224 (a3 + a4).toNatClampNeg)) rfl (by decide) rfl (by decide) rfl (fun _ => ?_)
        refine mS_if1 rfl (fun _ => ?_) (fun _ => ?_)
        · refine mS_steps (pc' := 55) (ls' := [.ref 223, .int a1, .ref 224, .int a3, .int a4, mU, mU]) (st' := [.int a1, .int a4, .ref 223]) (mem' := (mk x y)) 3 rfl ?_
          refine mS_bind (fun q3 hq3 => mS_call 112 3 [.ref 223, .int a4, .int a1] [] rfl rfl rfl ⟨_, _, _, rfl, rfl⟩ (Nat.le_of_ble_eq_true rfl) (Nat.le_of_ble_eq_true rfl) hq3 (f_X10_reach_223_snd a4 a1 x y) ?_)
          refine mS_steps (pc' := 63) (ls' := [.ref 223, .int a1, .ref 224, .int a3, .int a4, .int q3, .int (0 : Int32)]) (st' := []) (mem' := (mk x y)) 3 rfl ?_
          refine f_X10_parts_L63_223_224_snd a1 a3 a4 q3 y _ ?_ mF (0 : Int32) x
          · intro x5
            refine mS_steps (pc' := 26) (ls' := [.ref 223, .int a1, .ref 224, .int a3, .int (a4 + (1 : Int32)), mU, mU]) (st' := []) (mem' := (mk x5 y)) 2 rfl ?_
            exact ih (a4 + (1 : Int32)) x5
        · refine mS_steps (pc' := 26) (ls' := [.ref 223, .int a1, .ref 224, .int a3, .int (a4 + (1 : Int32)), mU, mU]) (st' := []) (mem' := (mk x y)) 2 rfl ?_
          exact ih (a4 + (1 : Int32)) x
set_option maxRecDepth 20000 in
set_option maxHeartbeats 2000000 in
theorem f_X10_parts_223_224_snd {fm : Value} {L : Nat} {xs : Nat → Int32} (p1 : Int32) (p3 : Int32) (x : mX) (y : mY) : mS fm L xs (fun r : mX => (mU, mk r y)) pg_X10_parts 0 (m_entry [.ref 223, .int p1, .ref 224, .int p3] 7) [] (mk x y) ((f_X10_parts 223 p1 224 p3 x)) := by
  unfold f_X10_parts
  refine mS_steps (pc' := 0) (ls' := [.ref 223, .int p1, .ref 224, .int p3, mU, mU, mU]) (st' := []) (mem' := (mk x y)) 0 rfl ?_
  refine mS_steps (pc' := 3) (ls' := [.ref 223, .int p1, .ref 224, .int p3, .int (0 : Int32), mU, mU]) (st' := []) (mem' := (mk x y)) 2 rfl ?_
  refine f_X10_parts_L3_223_224_snd p1 p3 y _ ?_ mF (0 : Int32) x
  · intro x2
    refine mS_steps (pc' := 26) (ls' := [.ref 223, .int p1, .ref 224, .int p3, .int (0 : Int32), mU, mU]) (st' := []) (mem' := (mk x2 y)) 2 rfl ?_
    refine f_X10_parts_L26_223_224_snd p1 p3 y mF (0 : Int32) x2
set_option maxRecDepth 20000 in
set_option maxHeartbeats 2000000 in
theorem f_X10_parts_L3_223_226_snd {fm : Value} {L : Nat} {xs : Nat → Int32} (a1 : Int32) (a3 : Int32) (y : mY) (k23 : mX → Option mX) (hk23 : ∀ (z0 : mX), mS fm L xs (fun r : mX => (mU, mk r y)) pg_X10_parts 23 [.ref 223, .int a1, .ref 226, .int a3, mU, mU, mU] [] (mk z0 y) (k23 z0)) : ∀ (n : Nat) (a4 : Int32) (x : mX), mS fm L xs (fun r : mX => (mU, mk r y)) pg_X10_parts 3 [.ref 223, .int a1, .ref 226, .int a3, .int a4, mU, mU] [] (mk x y) (f_X10_parts_L3 223 226 a3 n a4 x k23) := by
  intro n
  induction n with
  | zero => intro a4 x; exact mS_none
  | succ n ih =>
    intro a4 x
    rw [f_X10_parts_L3]
    refine mS_steps (pc' := 7) (ls' := [.ref 223, .int a1, .ref 226, .int a3, .int a4, mU, mU]) (st' := [.int (8 : Int32), .int a4]) (mem' := (mk x y)) 2 rfl ?_
    refine mS_ic3 rfl (fun _ => ?_) (fun _ => ?_)
    · refine mS_forget [.ref 223, .int a1, .ref 226, .int a3, mU, mU, mU] ⟨Or.inr rfl, Or.inr rfl, Or.inr rfl, Or.inr rfl, Or.inl rfl, Or.inl rfl, Or.inl rfl, trivial⟩ ?_
      exact hk23 x
    · refine mS_steps (pc' := 16) (ls' := [.ref 223, .int a1, .ref 226, .int a3, .int a4, mU, mU]) (st' := [.int (0 : Int32), .int (a3 + a4), .ref 226]) (mem' := (mk x y)) 5 rfl ?_
      refine mS_ast0x (n := 64) rfl rfl (by decide) (fun _ => ?_)
      refine mS_letx (fun x1 => ?_)
      refine mS_steps (pc' := 3) (ls' := [.ref 223, .int a1, .ref 226, .int a3, .int (a4 + (1 : Int32)), mU, mU]) (st' := []) (mem' := (mk x1 y)) 2 rfl ?_
      exact ih (a4 + (1 : Int32)) x1
set_option maxRecDepth 20000 in
set_option maxHeartbeats 2000000 in
theorem f_X10_parts_L63_223_226_snd {fm : Value} {L : Nat} {xs : Nat → Int32} (a1 : Int32) (a3 : Int32) (a4 : Int32) (a5 : Int32) (y : mY) (k94 : mX → Option mX) (hk94 : ∀ (z0 : mX), mS fm L xs (fun r : mX => (mU, mk r y)) pg_X10_parts 94 [.ref 223, .int a1, .ref 226, .int a3, .int a4, mU, mU] [] (mk z0 y) (k94 z0)) : ∀ (n : Nat) (a6 : Int32) (x : mX), mS fm L xs (fun r : mX => (mU, mk r y)) pg_X10_parts 63 [.ref 223, .int a1, .ref 226, .int a3, .int a4, .int a5, .int a6] [] (mk x y) (f_X10_parts_L63 223 226 a3 a5 n a6 x k94) := by
  intro n
  induction n with
  | zero => intro a6 x; exact mS_none
  | succ n ih =>
    intro a6 x
    rw [f_X10_parts_L63]
    refine mS_steps (pc' := 67) (ls' := [.ref 223, .int a1, .ref 226, .int a3, .int a4, .int a5, .int a6]) (st' := [.int (8 : Int32), .int a6]) (mem' := (mk x y)) 2 rfl ?_
    refine mS_ic3 rfl (fun _ => ?_) (fun _ => ?_)
    · refine mS_forget [.ref 223, .int a1, .ref 226, .int a3, .int a4, mU, mU] ⟨Or.inr rfl, Or.inr rfl, Or.inr rfl, Or.inr rfl, Or.inr rfl, Or.inl rfl, Or.inl rfl, trivial⟩ ?_
      exact hk94 x
    · refine mS_steps (pc' := 74) (ls' := [.ref 223, .int a1, .ref 226, .int a3, .int a4, .int a5, .int a6]) (st' := [.int a6, .int a5]) (mem' := (mk x y)) 2 rfl ?_
      refine mS_call (q := (f_X10_has a5 a6)) 57 2 [.int a5, .int a6] [] rfl rfl rfl ⟨_, _, _, rfl, rfl⟩ (Nat.le_of_ble_eq_true rfl) (Nat.le_of_ble_eq_true rfl) rfl (f_X10_has_snd a5 a6 (mk x y)) ?_
      refine mS_steps (pc' := 77) (ls' := [.ref 223, .int a1, .ref 226, .int a3, .int a4, .int a5, .int a6]) (st' := [.int (f_X10_has a5 a6)]) (mem' := (mk x y)) 0 rfl ?_
      refine mS_if0 rfl (fun _ => ?_) (fun _ => ?_)
      · refine mS_steps (pc' := 63) (ls' := [.ref 223, .int a1, .ref 226, .int a3, .int a4, .int a5, .int (a6 + (1 : Int32))]) (st' := []) (mem' := (mk x y)) 2 rfl ?_
        exact ih (a6 + (1 : Int32)) x
      · refine mS_steps (pc' := 87) (ls' := [.ref 223, .int a1, .ref 226, .int a3, .int a4, .int a5, .int a6]) (st' := [.int a5, .int (a3 + a6), .ref 226]) (mem' := (mk x y)) 5 rfl ?_
        refine mS_ast0x (n := 64) rfl rfl (by decide) (fun _ => ?_)
        refine mS_letx (fun x4 => ?_)
        refine mS_steps (pc' := 63) (ls' := [.ref 223, .int a1, .ref 226, .int a3, .int a4, .int a5, .int (a6 + (1 : Int32))]) (st' := []) (mem' := (mk x4 y)) 2 rfl ?_
        exact ih (a6 + (1 : Int32)) x4
set_option maxRecDepth 20000 in
set_option maxHeartbeats 2000000 in
theorem f_X10_parts_L26_223_226_snd {fm : Value} {L : Nat} {xs : Nat → Int32} (a1 : Int32) (a3 : Int32) (y : mY) : ∀ (n : Nat) (a4 : Int32) (x : mX), mS fm L xs (fun r : mX => (mU, mk r y)) pg_X10_parts 26 [.ref 223, .int a1, .ref 226, .int a3, .int a4, mU, mU] [] (mk x y) (f_X10_parts_L26 223 226 a1 a3 n a4 x) := by
  intro n
  induction n with
  | zero => intro a4 x; exact mS_none
  | succ n ih =>
    intro a4 x
    rw [f_X10_parts_L26]
    refine mS_steps (pc' := 30) (ls' := [.ref 223, .int a1, .ref 226, .int a3, .int a4, mU, mU]) (st' := [.int (8 : Int32), .int a4]) (mem' := (mk x y)) 2 rfl ?_
    refine mS_ic3 rfl (fun _ => ?_) (fun _ => ?_)
    · exact mS_retv ⟨_, _, _, _, _, rfl⟩ rfl
    · refine mS_steps (pc' := 36) (ls' := [.ref 223, .int a1, .ref 226, .int a3, .int a4, mU, mU]) (st' := [.int a4, .int a1]) (mem' := (mk x y)) 2 rfl ?_
      refine mS_call (q := (f_X10_has a1 a4)) 57 2 [.int a1, .int a4] [] rfl rfl rfl ⟨_, _, _, rfl, rfl⟩ (Nat.le_of_ble_eq_true rfl) (Nat.le_of_ble_eq_true rfl) rfl (f_X10_has_snd a1 a4 (mk x y)) ?_
      refine mS_steps (pc' := 39) (ls' := [.ref 223, .int a1, .ref 226, .int a3, .int a4, mU, mU]) (st' := [.int (f_X10_has a1 a4)]) (mem' := (mk x y)) 0 rfl ?_
      refine mS_if0 rfl (fun _ => ?_) (fun _ => ?_)
      · refine mS_steps (pc' := 26) (ls' := [.ref 223, .int a1, .ref 226, .int a3, .int (a4 + (1 : Int32)), mU, mU]) (st' := []) (mem' := (mk x y)) 2 rfl ?_
        exact ih (a4 + (1 : Int32)) x
      · refine mS_steps (pc' := 47) (ls' := [.ref 223, .int a1, .ref 226, .int a3, .int a4, mU, mU]) (st' := [.int (a3 + a4), .ref 226]) (mem' := (mk x y)) 4 rfl ?_
        refine mS_ald (b := 0) (n := 64) (z := (x.1 226 (a3 + a4).toNatClampNeg)) rfl (by decide) rfl (by decide) rfl (fun _ => ?_)
        refine mS_if1 rfl (fun _ => ?_) (fun _ => ?_)
        · refine mS_steps (pc' := 55) (ls' := [.ref 223, .int a1, .ref 226, .int a3, .int a4, mU, mU]) (st' := [.int a1, .int a4, .ref 223]) (mem' := (mk x y)) 3 rfl ?_
          refine mS_bind (fun q3 hq3 => mS_call 112 3 [.ref 223, .int a4, .int a1] [] rfl rfl rfl ⟨_, _, _, rfl, rfl⟩ (Nat.le_of_ble_eq_true rfl) (Nat.le_of_ble_eq_true rfl) hq3 (f_X10_reach_223_snd a4 a1 x y) ?_)
          refine mS_steps (pc' := 63) (ls' := [.ref 223, .int a1, .ref 226, .int a3, .int a4, .int q3, .int (0 : Int32)]) (st' := []) (mem' := (mk x y)) 3 rfl ?_
          refine f_X10_parts_L63_223_226_snd a1 a3 a4 q3 y _ ?_ mF (0 : Int32) x
          · intro x5
            refine mS_steps (pc' := 26) (ls' := [.ref 223, .int a1, .ref 226, .int a3, .int (a4 + (1 : Int32)), mU, mU]) (st' := []) (mem' := (mk x5 y)) 2 rfl ?_
            exact ih (a4 + (1 : Int32)) x5
        · refine mS_steps (pc' := 26) (ls' := [.ref 223, .int a1, .ref 226, .int a3, .int (a4 + (1 : Int32)), mU, mU]) (st' := []) (mem' := (mk x y)) 2 rfl ?_
          exact ih (a4 + (1 : Int32)) x
set_option maxRecDepth 20000 in
set_option maxHeartbeats 2000000 in
theorem f_X10_parts_223_226_snd {fm : Value} {L : Nat} {xs : Nat → Int32} (p1 : Int32) (p3 : Int32) (x : mX) (y : mY) : mS fm L xs (fun r : mX => (mU, mk r y)) pg_X10_parts 0 (m_entry [.ref 223, .int p1, .ref 226, .int p3] 7) [] (mk x y) ((f_X10_parts 223 p1 226 p3 x)) := by
  unfold f_X10_parts
  refine mS_steps (pc' := 0) (ls' := [.ref 223, .int p1, .ref 226, .int p3, mU, mU, mU]) (st' := []) (mem' := (mk x y)) 0 rfl ?_
  refine mS_steps (pc' := 3) (ls' := [.ref 223, .int p1, .ref 226, .int p3, .int (0 : Int32), mU, mU]) (st' := []) (mem' := (mk x y)) 2 rfl ?_
  refine f_X10_parts_L3_223_226_snd p1 p3 y _ ?_ mF (0 : Int32) x
  · intro x2
    refine mS_steps (pc' := 26) (ls' := [.ref 223, .int p1, .ref 226, .int p3, .int (0 : Int32), mU, mU]) (st' := []) (mem' := (mk x2 y)) 2 rfl ?_
    refine f_X10_parts_L26_223_226_snd p1 p3 y mF (0 : Int32) x2
set_option maxRecDepth 20000 in
set_option maxHeartbeats 2000000 in
theorem f_X10_parts_L3_259_260_snd {fm : Value} {L : Nat} {xs : Nat → Int32} (a1 : Int32) (a3 : Int32) (y : mY) (k23 : mX → Option mX) (hk23 : ∀ (z0 : mX), mS fm L xs (fun r : mX => (mU, mk r y)) pg_X10_parts 23 [.ref 259, .int a1, .ref 260, .int a3, mU, mU, mU] [] (mk z0 y) (k23 z0)) : ∀ (n : Nat) (a4 : Int32) (x : mX), mS fm L xs (fun r : mX => (mU, mk r y)) pg_X10_parts 3 [.ref 259, .int a1, .ref 260, .int a3, .int a4, mU, mU] [] (mk x y) (f_X10_parts_L3 259 260 a3 n a4 x k23) := by
  intro n
  induction n with
  | zero => intro a4 x; exact mS_none
  | succ n ih =>
    intro a4 x
    rw [f_X10_parts_L3]
    refine mS_steps (pc' := 7) (ls' := [.ref 259, .int a1, .ref 260, .int a3, .int a4, mU, mU]) (st' := [.int (8 : Int32), .int a4]) (mem' := (mk x y)) 2 rfl ?_
    refine mS_ic3 rfl (fun _ => ?_) (fun _ => ?_)
    · refine mS_forget [.ref 259, .int a1, .ref 260, .int a3, mU, mU, mU] ⟨Or.inr rfl, Or.inr rfl, Or.inr rfl, Or.inr rfl, Or.inl rfl, Or.inl rfl, Or.inl rfl, trivial⟩ ?_
      exact hk23 x
    · refine mS_steps (pc' := 16) (ls' := [.ref 259, .int a1, .ref 260, .int a3, .int a4, mU, mU]) (st' := [.int (0 : Int32), .int (a3 + a4), .ref 260]) (mem' := (mk x y)) 5 rfl ?_
      refine mS_ast0x (n := 8) rfl rfl (by decide) (fun _ => ?_)
      refine mS_letx (fun x1 => ?_)
      refine mS_steps (pc' := 3) (ls' := [.ref 259, .int a1, .ref 260, .int a3, .int (a4 + (1 : Int32)), mU, mU]) (st' := []) (mem' := (mk x1 y)) 2 rfl ?_
      exact ih (a4 + (1 : Int32)) x1
set_option maxRecDepth 20000 in
set_option maxHeartbeats 2000000 in
theorem f_X10_parts_L63_259_260_snd {fm : Value} {L : Nat} {xs : Nat → Int32} (a1 : Int32) (a3 : Int32) (a4 : Int32) (a5 : Int32) (y : mY) (k94 : mX → Option mX) (hk94 : ∀ (z0 : mX), mS fm L xs (fun r : mX => (mU, mk r y)) pg_X10_parts 94 [.ref 259, .int a1, .ref 260, .int a3, .int a4, mU, mU] [] (mk z0 y) (k94 z0)) : ∀ (n : Nat) (a6 : Int32) (x : mX), mS fm L xs (fun r : mX => (mU, mk r y)) pg_X10_parts 63 [.ref 259, .int a1, .ref 260, .int a3, .int a4, .int a5, .int a6] [] (mk x y) (f_X10_parts_L63 259 260 a3 a5 n a6 x k94) := by
  intro n
  induction n with
  | zero => intro a6 x; exact mS_none
  | succ n ih =>
    intro a6 x
    rw [f_X10_parts_L63]
    refine mS_steps (pc' := 67) (ls' := [.ref 259, .int a1, .ref 260, .int a3, .int a4, .int a5, .int a6]) (st' := [.int (8 : Int32), .int a6]) (mem' := (mk x y)) 2 rfl ?_
    refine mS_ic3 rfl (fun _ => ?_) (fun _ => ?_)
    · refine mS_forget [.ref 259, .int a1, .ref 260, .int a3, .int a4, mU, mU] ⟨Or.inr rfl, Or.inr rfl, Or.inr rfl, Or.inr rfl, Or.inr rfl, Or.inl rfl, Or.inl rfl, trivial⟩ ?_
      exact hk94 x
    · refine mS_steps (pc' := 74) (ls' := [.ref 259, .int a1, .ref 260, .int a3, .int a4, .int a5, .int a6]) (st' := [.int a6, .int a5]) (mem' := (mk x y)) 2 rfl ?_
      refine mS_call (q := (f_X10_has a5 a6)) 57 2 [.int a5, .int a6] [] rfl rfl rfl ⟨_, _, _, rfl, rfl⟩ (Nat.le_of_ble_eq_true rfl) (Nat.le_of_ble_eq_true rfl) rfl (f_X10_has_snd a5 a6 (mk x y)) ?_
      refine mS_steps (pc' := 77) (ls' := [.ref 259, .int a1, .ref 260, .int a3, .int a4, .int a5, .int a6]) (st' := [.int (f_X10_has a5 a6)]) (mem' := (mk x y)) 0 rfl ?_
      refine mS_if0 rfl (fun _ => ?_) (fun _ => ?_)
      · refine mS_steps (pc' := 63) (ls' := [.ref 259, .int a1, .ref 260, .int a3, .int a4, .int a5, .int (a6 + (1 : Int32))]) (st' := []) (mem' := (mk x y)) 2 rfl ?_
        exact ih (a6 + (1 : Int32)) x
      · refine mS_steps (pc' := 87) (ls' := [.ref 259, .int a1, .ref 260, .int a3, .int a4, .int a5, .int a6]) (st' := [.int a5, .int (a3 + a6), .ref 260]) (mem' := (mk x y)) 5 rfl ?_
        refine mS_ast0x (n := 8) rfl rfl (by decide) (fun _ => ?_)
        refine mS_letx (fun x4 => ?_)
        refine mS_steps (pc' := 63) (ls' := [.ref 259, .int a1, .ref 260, .int a3, .int a4, .int a5, .int (a6 + (1 : Int32))]) (st' := []) (mem' := (mk x4 y)) 2 rfl ?_
        exact ih (a6 + (1 : Int32)) x4
set_option maxRecDepth 20000 in
set_option maxHeartbeats 2000000 in
theorem f_X10_parts_L26_259_260_snd {fm : Value} {L : Nat} {xs : Nat → Int32} (a1 : Int32) (a3 : Int32) (y : mY) : ∀ (n : Nat) (a4 : Int32) (x : mX), mS fm L xs (fun r : mX => (mU, mk r y)) pg_X10_parts 26 [.ref 259, .int a1, .ref 260, .int a3, .int a4, mU, mU] [] (mk x y) (f_X10_parts_L26 259 260 a1 a3 n a4 x) := by
  intro n
  induction n with
  | zero => intro a4 x; exact mS_none
  | succ n ih =>
    intro a4 x
    rw [f_X10_parts_L26]
    refine mS_steps (pc' := 30) (ls' := [.ref 259, .int a1, .ref 260, .int a3, .int a4, mU, mU]) (st' := [.int (8 : Int32), .int a4]) (mem' := (mk x y)) 2 rfl ?_
    refine mS_ic3 rfl (fun _ => ?_) (fun _ => ?_)
    · exact mS_retv ⟨_, _, _, _, _, rfl⟩ rfl
    · refine mS_steps (pc' := 36) (ls' := [.ref 259, .int a1, .ref 260, .int a3, .int a4, mU, mU]) (st' := [.int a4, .int a1]) (mem' := (mk x y)) 2 rfl ?_
      refine mS_call (q := (f_X10_has a1 a4)) 57 2 [.int a1, .int a4] [] rfl rfl rfl ⟨_, _, _, rfl, rfl⟩ (Nat.le_of_ble_eq_true rfl) (Nat.le_of_ble_eq_true rfl) rfl (f_X10_has_snd a1 a4 (mk x y)) ?_
      refine mS_steps (pc' := 39) (ls' := [.ref 259, .int a1, .ref 260, .int a3, .int a4, mU, mU]) (st' := [.int (f_X10_has a1 a4)]) (mem' := (mk x y)) 0 rfl ?_
      refine mS_if0 rfl (fun _ => ?_) (fun _ => ?_)
      · refine mS_steps (pc' := 26) (ls' := [.ref 259, .int a1, .ref 260, .int a3, .int (a4 + (1 : Int32)), mU, mU]) (st' := []) (mem' := (mk x y)) 2 rfl ?_
        exact ih (a4 + (1 : Int32)) x
      · refine mS_steps (pc' := 47) (ls' := [.ref 259, .int a1, .ref 260, .int a3, .int a4, mU, mU]) (st' := [.int (a3 + a4), .ref 260]) (mem' := (mk x y)) 4 rfl ?_
        refine mS_ald (b := 0) (n := 8) (z := (x.1 260 (a3 + a4).toNatClampNeg)) rfl (by decide) rfl (by decide) rfl (fun _ => ?_)
        refine mS_if1 rfl (fun _ => ?_) (fun _ => ?_)
        · refine mS_steps (pc' := 55) (ls' := [.ref 259, .int a1, .ref 260, .int a3, .int a4, mU, mU]) (st' := [.int a1, .int a4, .ref 259]) (mem' := (mk x y)) 3 rfl ?_
          refine mS_bind (fun q3 hq3 => mS_call 112 3 [.ref 259, .int a4, .int a1] [] rfl rfl rfl ⟨_, _, _, rfl, rfl⟩ (Nat.le_of_ble_eq_true rfl) (Nat.le_of_ble_eq_true rfl) hq3 (f_X10_reach_259_snd a4 a1 x y) ?_)
          refine mS_steps (pc' := 63) (ls' := [.ref 259, .int a1, .ref 260, .int a3, .int a4, .int q3, .int (0 : Int32)]) (st' := []) (mem' := (mk x y)) 3 rfl ?_
          refine f_X10_parts_L63_259_260_snd a1 a3 a4 q3 y _ ?_ mF (0 : Int32) x
          · intro x5
            refine mS_steps (pc' := 26) (ls' := [.ref 259, .int a1, .ref 260, .int a3, .int (a4 + (1 : Int32)), mU, mU]) (st' := []) (mem' := (mk x5 y)) 2 rfl ?_
            exact ih (a4 + (1 : Int32)) x5
        · refine mS_steps (pc' := 26) (ls' := [.ref 259, .int a1, .ref 260, .int a3, .int (a4 + (1 : Int32)), mU, mU]) (st' := []) (mem' := (mk x y)) 2 rfl ?_
          exact ih (a4 + (1 : Int32)) x
set_option maxRecDepth 20000 in
set_option maxHeartbeats 2000000 in
theorem f_X10_parts_259_260_snd {fm : Value} {L : Nat} {xs : Nat → Int32} (p1 : Int32) (p3 : Int32) (x : mX) (y : mY) : mS fm L xs (fun r : mX => (mU, mk r y)) pg_X10_parts 0 (m_entry [.ref 259, .int p1, .ref 260, .int p3] 7) [] (mk x y) ((f_X10_parts 259 p1 260 p3 x)) := by
  unfold f_X10_parts
  refine mS_steps (pc' := 0) (ls' := [.ref 259, .int p1, .ref 260, .int p3, mU, mU, mU]) (st' := []) (mem' := (mk x y)) 0 rfl ?_
  refine mS_steps (pc' := 3) (ls' := [.ref 259, .int p1, .ref 260, .int p3, .int (0 : Int32), mU, mU]) (st' := []) (mem' := (mk x y)) 2 rfl ?_
  refine f_X10_parts_L3_259_260_snd p1 p3 y _ ?_ mF (0 : Int32) x
  · intro x2
    refine mS_steps (pc' := 26) (ls' := [.ref 259, .int p1, .ref 260, .int p3, .int (0 : Int32), mU, mU]) (st' := []) (mem' := (mk x2 y)) 2 rfl ?_
    refine f_X10_parts_L26_259_260_snd p1 p3 y mF (0 : Int32) x2
set_option maxRecDepth 20000 in
set_option maxHeartbeats 2000000 in
theorem f_X10_parts_L3_259_262_snd {fm : Value} {L : Nat} {xs : Nat → Int32} (a1 : Int32) (a3 : Int32) (y : mY) (k23 : mX → Option mX) (hk23 : ∀ (z0 : mX), mS fm L xs (fun r : mX => (mU, mk r y)) pg_X10_parts 23 [.ref 259, .int a1, .ref 262, .int a3, mU, mU, mU] [] (mk z0 y) (k23 z0)) : ∀ (n : Nat) (a4 : Int32) (x : mX), mS fm L xs (fun r : mX => (mU, mk r y)) pg_X10_parts 3 [.ref 259, .int a1, .ref 262, .int a3, .int a4, mU, mU] [] (mk x y) (f_X10_parts_L3 259 262 a3 n a4 x k23) := by
  intro n
  induction n with
  | zero => intro a4 x; exact mS_none
  | succ n ih =>
    intro a4 x
    rw [f_X10_parts_L3]
    refine mS_steps (pc' := 7) (ls' := [.ref 259, .int a1, .ref 262, .int a3, .int a4, mU, mU]) (st' := [.int (8 : Int32), .int a4]) (mem' := (mk x y)) 2 rfl ?_
    refine mS_ic3 rfl (fun _ => ?_) (fun _ => ?_)
    · refine mS_forget [.ref 259, .int a1, .ref 262, .int a3, mU, mU, mU] ⟨Or.inr rfl, Or.inr rfl, Or.inr rfl, Or.inr rfl, Or.inl rfl, Or.inl rfl, Or.inl rfl, trivial⟩ ?_
      exact hk23 x
    · refine mS_steps (pc' := 16) (ls' := [.ref 259, .int a1, .ref 262, .int a3, .int a4, mU, mU]) (st' := [.int (0 : Int32), .int (a3 + a4), .ref 262]) (mem' := (mk x y)) 5 rfl ?_
      refine mS_ast0x (n := 64) rfl rfl (by decide) (fun _ => ?_)
      refine mS_letx (fun x1 => ?_)
      refine mS_steps (pc' := 3) (ls' := [.ref 259, .int a1, .ref 262, .int a3, .int (a4 + (1 : Int32)), mU, mU]) (st' := []) (mem' := (mk x1 y)) 2 rfl ?_
      exact ih (a4 + (1 : Int32)) x1
set_option maxRecDepth 20000 in
set_option maxHeartbeats 2000000 in
theorem f_X10_parts_L63_259_262_snd {fm : Value} {L : Nat} {xs : Nat → Int32} (a1 : Int32) (a3 : Int32) (a4 : Int32) (a5 : Int32) (y : mY) (k94 : mX → Option mX) (hk94 : ∀ (z0 : mX), mS fm L xs (fun r : mX => (mU, mk r y)) pg_X10_parts 94 [.ref 259, .int a1, .ref 262, .int a3, .int a4, mU, mU] [] (mk z0 y) (k94 z0)) : ∀ (n : Nat) (a6 : Int32) (x : mX), mS fm L xs (fun r : mX => (mU, mk r y)) pg_X10_parts 63 [.ref 259, .int a1, .ref 262, .int a3, .int a4, .int a5, .int a6] [] (mk x y) (f_X10_parts_L63 259 262 a3 a5 n a6 x k94) := by
  intro n
  induction n with
  | zero => intro a6 x; exact mS_none
  | succ n ih =>
    intro a6 x
    rw [f_X10_parts_L63]
    refine mS_steps (pc' := 67) (ls' := [.ref 259, .int a1, .ref 262, .int a3, .int a4, .int a5, .int a6]) (st' := [.int (8 : Int32), .int a6]) (mem' := (mk x y)) 2 rfl ?_
    refine mS_ic3 rfl (fun _ => ?_) (fun _ => ?_)
    · refine mS_forget [.ref 259, .int a1, .ref 262, .int a3, .int a4, mU, mU] ⟨Or.inr rfl, Or.inr rfl, Or.inr rfl, Or.inr rfl, Or.inr rfl, Or.inl rfl, Or.inl rfl, trivial⟩ ?_
      exact hk94 x
    · refine mS_steps (pc' := 74) (ls' := [.ref 259, .int a1, .ref 262, .int a3, .int a4, .int a5, .int a6]) (st' := [.int a6, .int a5]) (mem' := (mk x y)) 2 rfl ?_
      refine mS_call (q := (f_X10_has a5 a6)) 57 2 [.int a5, .int a6] [] rfl rfl rfl ⟨_, _, _, rfl, rfl⟩ (Nat.le_of_ble_eq_true rfl) (Nat.le_of_ble_eq_true rfl) rfl (f_X10_has_snd a5 a6 (mk x y)) ?_
      refine mS_steps (pc' := 77) (ls' := [.ref 259, .int a1, .ref 262, .int a3, .int a4, .int a5, .int a6]) (st' := [.int (f_X10_has a5 a6)]) (mem' := (mk x y)) 0 rfl ?_
      refine mS_if0 rfl (fun _ => ?_) (fun _ => ?_)
      · refine mS_steps (pc' := 63) (ls' := [.ref 259, .int a1, .ref 262, .int a3, .int a4, .int a5, .int (a6 + (1 : Int32))]) (st' := []) (mem' := (mk x y)) 2 rfl ?_
        exact ih (a6 + (1 : Int32)) x
      · refine mS_steps (pc' := 87) (ls' := [.ref 259, .int a1, .ref 262, .int a3, .int a4, .int a5, .int a6]) (st' := [.int a5, .int (a3 + a6), .ref 262]) (mem' := (mk x y)) 5 rfl ?_
        refine mS_ast0x (n := 64) rfl rfl (by decide) (fun _ => ?_)
        refine mS_letx (fun x4 => ?_)
        refine mS_steps (pc' := 63) (ls' := [.ref 259, .int a1, .ref 262, .int a3, .int a4, .int a5, .int (a6 + (1 : Int32))]) (st' := []) (mem' := (mk x4 y)) 2 rfl ?_
        exact ih (a6 + (1 : Int32)) x4
set_option maxRecDepth 20000 in
set_option maxHeartbeats 2000000 in
theorem f_X10_parts_L26_259_262_snd {fm : Value} {L : Nat} {xs : Nat → Int32} (a1 : Int32) (a3 : Int32) (y : mY) : ∀ (n : Nat) (a4 : Int32) (x : mX), mS fm L xs (fun r : mX => (mU, mk r y)) pg_X10_parts 26 [.ref 259, .int a1, .ref 262, .int a3, .int a4, mU, mU] [] (mk x y) (f_X10_parts_L26 259 262 a1 a3 n a4 x) := by
  intro n
  induction n with
  | zero => intro a4 x; exact mS_none
  | succ n ih =>
    intro a4 x
    rw [f_X10_parts_L26]
    refine mS_steps (pc' := 30) (ls' := [.ref 259, .int a1, .ref 262, .int a3, .int a4, mU, mU]) (st' := [.int (8 : Int32), .int a4]) (mem' := (mk x y)) 2 rfl ?_
    refine mS_ic3 rfl (fun _ => ?_) (fun _ => ?_)
    · exact mS_retv ⟨_, _, _, _, _, rfl⟩ rfl
    · refine mS_steps (pc' := 36) (ls' := [.ref 259, .int a1, .ref 262, .int a3, .int a4, mU, mU]) (st' := [.int a4, .int a1]) (mem' := (mk x y)) 2 rfl ?_
      refine mS_call (q := (f_X10_has a1 a4)) 57 2 [.int a1, .int a4] [] rfl rfl rfl ⟨_, _, _, rfl, rfl⟩ (Nat.le_of_ble_eq_true rfl) (Nat.le_of_ble_eq_true rfl) rfl (f_X10_has_snd a1 a4 (mk x y)) ?_
      refine mS_steps (pc' := 39) (ls' := [.ref 259, .int a1, .ref 262, .int a3, .int a4, mU, mU]) (st' := [.int (f_X10_has a1 a4)]) (mem' := (mk x y)) 0 rfl ?_
      refine mS_if0 rfl (fun _ => ?_) (fun _ => ?_)
      · refine mS_steps (pc' := 26) (ls' := [.ref 259, .int a1, .ref 262, .int a3, .int (a4 + (1 : Int32)), mU, mU]) (st' := []) (mem' := (mk x y)) 2 rfl ?_
        exact ih (a4 + (1 : Int32)) x
      · refine mS_steps (pc' := 47) (ls' := [.ref 259, .int a1, .ref 262, .int a3, .int a4, mU, mU]) (st' := [.int (a3 + a4), .ref 262]) (mem' := (mk x y)) 4 rfl ?_
        refine mS_ald (b := 0) (n := 64) (z := (x.1 262 (a3 + a4).toNatClampNeg)) rfl (by decide) rfl (by decide) rfl (fun _ => ?_)
        refine mS_if1 rfl (fun _ => ?_) (fun _ => ?_)
        · refine mS_steps (pc' := 55) (ls' := [.ref 259, .int a1, .ref 262, .int a3, .int a4, mU, mU]) (st' := [.int a1, .int a4, .ref 259]) (mem' := (mk x y)) 3 rfl ?_
          refine mS_bind (fun q3 hq3 => mS_call 112 3 [.ref 259, .int a4, .int a1] [] rfl rfl rfl ⟨_, _, _, rfl, rfl⟩ (Nat.le_of_ble_eq_true rfl) (Nat.le_of_ble_eq_true rfl) hq3 (f_X10_reach_259_snd a4 a1 x y) ?_)
          refine mS_steps (pc' := 63) (ls' := [.ref 259, .int a1, .ref 262, .int a3, .int a4, .int q3, .int (0 : Int32)]) (st' := []) (mem' := (mk x y)) 3 rfl ?_
          refine f_X10_parts_L63_259_262_snd a1 a3 a4 q3 y _ ?_ mF (0 : Int32) x
          · intro x5
            refine mS_steps (pc' := 26) (ls' := [.ref 259, .int a1, .ref 262, .int a3, .int (a4 + (1 : Int32)), mU, mU]) (st' := []) (mem' := (mk x5 y)) 2 rfl ?_
            exact ih (a4 + (1 : Int32)) x5
        · refine mS_steps (pc' := 26) (ls' := [.ref 259, .int a1, .ref 262, .int a3, .int (a4 + (1 : Int32)), mU, mU]) (st' := []) (mem' := (mk x y)) 2 rfl ?_
          exact ih (a4 + (1 : Int32)) x
set_option maxRecDepth 20000 in
set_option maxHeartbeats 2000000 in
theorem f_X10_parts_259_262_snd {fm : Value} {L : Nat} {xs : Nat → Int32} (p1 : Int32) (p3 : Int32) (x : mX) (y : mY) : mS fm L xs (fun r : mX => (mU, mk r y)) pg_X10_parts 0 (m_entry [.ref 259, .int p1, .ref 262, .int p3] 7) [] (mk x y) ((f_X10_parts 259 p1 262 p3 x)) := by
  unfold f_X10_parts
  refine mS_steps (pc' := 0) (ls' := [.ref 259, .int p1, .ref 262, .int p3, mU, mU, mU]) (st' := []) (mem' := (mk x y)) 0 rfl ?_
  refine mS_steps (pc' := 3) (ls' := [.ref 259, .int p1, .ref 262, .int p3, .int (0 : Int32), mU, mU]) (st' := []) (mem' := (mk x y)) 2 rfl ?_
  refine f_X10_parts_L3_259_262_snd p1 p3 y _ ?_ mF (0 : Int32) x
  · intro x2
    refine mS_steps (pc' := 26) (ls' := [.ref 259, .int p1, .ref 262, .int p3, .int (0 : Int32), mU, mU]) (st' := []) (mem' := (mk x2 y)) 2 rfl ?_
    refine f_X10_parts_L26_259_262_snd p1 p3 y mF (0 : Int32) x2
