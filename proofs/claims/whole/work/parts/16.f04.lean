/-! ===== methods as functions (written by wip/whole/gen/emitall.py) ===== -/
def f_X11_laysOrder_L21 (a1 : Int32) (a2 : Int32) : Nat → Int32 → Int32 → mY → (mY → Option mY) → Option mY
  | 0, _, _, _, _ => none
  | n + 1, a4, a5, y, k87 => (if (8 : Int32) ≤ a5 then (k87 y) else (if m_in a1 64 = true then (if (f_X11_has (y.1 296 a1.toNatClampNeg) a5) = 0 then (f_X11_laysOrder_L21 a1 a2 n a4 (a5 + (1 : Int32)) y k87) else (if m_in a1 64 = true then (if a5 = (y.1 297 a1.toNatClampNeg) then (f_X11_laysOrder_L21 a1 a2 n a4 (a5 + (1 : Int32)) y k87) else (if m_in a1 64 = true then (if a5 = (y.1 298 a1.toNatClampNeg) then (f_X11_laysOrder_L21 a1 a2 n a4 (a5 + (1 : Int32)) y k87) else (if m_in (a2 + a4) 512 = true then (m_let (m_ys y 299 (a2 + a4).toNatClampNeg a5) fun y2 => (f_X11_laysOrder_L21 a1 a2 n (a4 + (1 : Int32)) (a5 + (1 : Int32)) y2 k87)) else none)) else none)) else none)) else none))
def f_X11_laysOrder_L115 (a2 : Int32) (a3 : Int32) : Nat → mY → Option mY
  | 0, _ => none
  | n + 1, y => ((f_X11_isOrder a2 a3 y).bind fun q6 => (if q6 = 0 then ((f_X11_nextRow (a2 + (1 : Int32)) (a3 - (2 : Int32)) y).bind fun q7 => (f_X11_laysOrder_L115 a2 a3 n q7)) else (some y)))
def f_X11_laysOrder (p1 : Int32) (y : mY) : Option mY := (if m_in p1 64 = true then ((f_X11_bitsOf (y.1 296 p1.toNatClampNeg)).bind fun q1 => (f_X11_laysOrder_L21 p1 ((8 : Int32) * p1) mF (1 : Int32) (0 : Int32) y (fun y3 => (if m_in p1 64 = true then (if m_in ((8 : Int32) * p1) 512 = true then (m_let (m_ys y3 299 ((8 : Int32) * p1).toNatClampNeg (y3.1 297 p1.toNatClampNeg)) fun y4 => (if m_in p1 64 = true then (if m_in ((((8 : Int32) * p1) + q1) - (1 : Int32)) 512 = true then (m_let (m_ys y4 299 ((((8 : Int32) * p1) + q1) - (1 : Int32)).toNatClampNeg (y4.1 298 p1.toNatClampNeg)) fun y5 => (f_X11_laysOrder_L115 ((8 : Int32) * p1) q1 mF y5)) else none) else none)) else none) else none)))) else none)
set_option maxRecDepth 20000 in
set_option maxHeartbeats 2000000 in
theorem f_X11_laysOrder_L21_snd {fm : Value} {L : Nat} {xs : Nat → Int32} (a1 : Int32) (a2 : Int32) (a3 : Int32) (x : mX) (k87 : mY → Option mY) (hk87 : ∀ (z0 : mY), mS fm L xs (fun r : mY => (mU, mk x r)) pg_X11_laysOrder 87 [.ref 279, .int a1, .int a2, .int a3, mU, mU] [] (mk x z0) (k87 z0)) : ∀ (n : Nat) (a4 : Int32) (a5 : Int32) (y : mY), mS fm L xs (fun r : mY => (mU, mk x r)) pg_X11_laysOrder 21 [.ref 279, .int a1, .int a2, .int a3, .int a4, .int a5] [] (mk x y) (f_X11_laysOrder_L21 a1 a2 n a4 a5 y k87) := by
  intro n
  induction n with
  | zero => intro a4 a5 y; exact mS_none
  | succ n ih =>
    intro a4 a5 y
    rw [f_X11_laysOrder_L21]
    refine mS_steps (pc' := 25) (ls' := [.ref 279, .int a1, .int a2, .int a3, .int a4, .int a5]) (st' := [.int (8 : Int32), .int a5]) (mem' := (mk x y)) 2 rfl ?_
    refine mS_ic3 rfl (fun _ => ?_) (fun _ => ?_)
    · refine mS_forget [.ref 279, .int a1, .int a2, .int a3, mU, mU] ⟨Or.inr rfl, Or.inr rfl, Or.inr rfl, Or.inr rfl, Or.inl rfl, Or.inl rfl, trivial⟩ ?_
      exact hk87 y
    · refine mS_steps (pc' := 33) (ls' := [.ref 279, .int a1, .int a2, .int a3, .int a4, .int a5]) (st' := [.int a1, .ref 296]) (mem' := (mk x y)) 3 rfl ?_
      refine mS_ald (b := 0) (n := 64) (z := (y.1 296 a1.toNatClampNeg)) rfl (by decide) rfl (by decide) rfl (fun _ => ?_)
      refine mS_steps (pc' := 36) (ls' := [.ref 279, .int a1, .int a2, .int a3, .int a4, .int a5]) (st' := [.int a5, .int (y.1 296 a1.toNatClampNeg)]) (mem' := (mk x y)) 1 rfl ?_
      refine mS_call (q := (f_X11_has (y.1 296 a1.toNatClampNeg) a5)) 87 2 [.int (y.1 296 a1.toNatClampNeg), .int a5] [] rfl rfl rfl ⟨_, _, _, rfl, rfl⟩ (Nat.le_of_ble_eq_true rfl) (Nat.le_of_ble_eq_true rfl) rfl (f_X11_has_snd (y.1 296 a1.toNatClampNeg) a5 (mk x y)) ?_
      refine mS_steps (pc' := 39) (ls' := [.ref 279, .int a1, .int a2, .int a3, .int a4, .int a5]) (st' := [.int (f_X11_has (y.1 296 a1.toNatClampNeg) a5)]) (mem' := (mk x y)) 0 rfl ?_
      refine mS_if0 rfl (fun _ => ?_) (fun _ => ?_)
      · refine mS_steps (pc' := 21) (ls' := [.ref 279, .int a1, .int a2, .int a3, .int a4, .int (a5 + (1 : Int32))]) (st' := []) (mem' := (mk x y)) 2 rfl ?_
        exact ih a4 (a5 + (1 : Int32)) y
      · refine mS_steps (pc' := 49) (ls' := [.ref 279, .int a1, .int a2, .int a3, .int a4, .int a5]) (st' := [.int a1, .ref 297, .int a5]) (mem' := (mk x y)) 4 rfl ?_
        refine mS_ald (b := 0) (n := 64) (z := (y.1 297 a1.toNatClampNeg)) rfl (by decide) rfl (by decide) rfl (fun _ => ?_)
        refine mS_ic0 rfl (fun _ => ?_) (fun _ => ?_)
        · refine mS_steps (pc' := 21) (ls' := [.ref 279, .int a1, .int a2, .int a3, .int a4, .int (a5 + (1 : Int32))]) (st' := []) (mem' := (mk x y)) 2 rfl ?_
          exact ih a4 (a5 + (1 : Int32)) y
        · refine mS_steps (pc' := 60) (ls' := [.ref 279, .int a1, .int a2, .int a3, .int a4, .int a5]) (st' := [.int a1, .ref 298, .int a5]) (mem' := (mk x y)) 4 rfl ?_
          refine mS_ald (b := 0) (n := 64) (z := (y.1 298 a1.toNatClampNeg)) rfl (by decide) rfl (by decide) rfl (fun _ => ?_)
          refine mS_ic1 rfl (fun _ => ?_) (fun _ => ?_)
          · refine mS_steps (pc' := 21) (ls' := [.ref 279, .int a1, .int a2, .int a3, .int a4, .int (a5 + (1 : Int32))]) (st' := []) (mem' := (mk x y)) 3 rfl ?_
            exact ih a4 (a5 + (1 : Int32)) y
          · refine mS_steps (pc' := 77) (ls' := [.ref 279, .int a1, .int a2, .int a3, .int a4, .int a5]) (st' := [.int a5, .int (a2 + a4), .ref 299]) (mem' := (mk x y)) 6 rfl ?_
            refine mS_ast0y (n := 512) rfl rfl (by decide) (fun _ => ?_)
            refine mS_lety (fun y2 => ?_)
            refine mS_steps (pc' := 21) (ls' := [.ref 279, .int a1, .int a2, .int a3, .int (a4 + (1 : Int32)), .int (a5 + (1 : Int32))]) (st' := []) (mem' := (mk x y2)) 3 rfl ?_
            exact ih (a4 + (1 : Int32)) (a5 + (1 : Int32)) y2
set_option maxRecDepth 20000 in
set_option maxHeartbeats 2000000 in
theorem f_X11_laysOrder_L115_snd {fm : Value} {L : Nat} {xs : Nat → Int32} (a2 : Int32) (a3 : Int32) (x : mX) : ∀ (n : Nat) (y : mY), mS fm L xs (fun r : mY => (mU, mk x r)) pg_X11_laysOrder 115 [.ref 279, mU, .int a2, .int a3, mU, mU] [] (mk x y) (f_X11_laysOrder_L115 a2 a3 n y) := by
  intro n
  induction n with
  | zero => intro y; exact mS_none
  | succ n ih =>
    intro y
    rw [f_X11_laysOrder_L115]
    refine mS_steps (pc' := 118) (ls' := [.ref 279, mU, .int a2, .int a3, mU, mU]) (st' := [.int a3, .int a2, .ref 279]) (mem' := (mk x y)) 3 rfl ?_
    refine mS_bind (fun q6 hq6 => mS_call 151 3 [.ref 279, .int a2, .int a3] [] rfl rfl rfl ⟨_, _, _, rfl, rfl⟩ (Nat.le_of_ble_eq_true rfl) (Nat.le_of_ble_eq_true rfl) hq6 (f_X11_isOrder_snd a2 a3 y x) ?_)
    refine mS_steps (pc' := 121) (ls' := [.ref 279, mU, .int a2, .int a3, mU, mU]) (st' := [.int q6]) (mem' := (mk x y)) 0 rfl ?_
    refine mS_if1 rfl (fun _ => ?_) (fun _ => ?_)
    · refine mS_steps (pc' := 131) (ls' := [.ref 279, mU, .int a2, .int a3, mU, mU]) (st' := [.int (a3 - (2 : Int32)), .int (a2 + (1 : Int32)), .ref 279]) (mem' := (mk x y)) 7 rfl ?_
      refine mS_bind (fun q7 hq7 => mS_call 153 3 [.ref 279, .int (a2 + (1 : Int32)), .int (a3 - (2 : Int32))] [] rfl rfl rfl ⟨_, _, _, rfl, rfl⟩ (Nat.le_of_ble_eq_true rfl) (Nat.le_of_ble_eq_true rfl) hq7 (f_X11_nextRow_snd (a2 + (1 : Int32)) (a3 - (2 : Int32)) y x) ?_)
      refine mS_steps (pc' := 115) (ls' := [.ref 279, mU, .int a2, .int a3, mU, mU]) (st' := []) (mem' := (mk x q7)) 1 rfl ?_
      exact ih q7
    · exact mS_retv ⟨_, _, _, _, _, rfl⟩ rfl
set_option maxRecDepth 20000 in
set_option maxHeartbeats 2000000 in
theorem f_X11_laysOrder_snd {fm : Value} {L : Nat} {xs : Nat → Int32} (p1 : Int32) (y : mY) (x : mX) : mS fm L xs (fun r : mY => (mU, mk x r)) pg_X11_laysOrder 0 (m_entry [.ref 279, .int p1] 6) [] (mk x y) ((f_X11_laysOrder p1 y)) := by
  unfold f_X11_laysOrder
  refine mS_steps (pc' := 0) (ls' := [.ref 279, .int p1, mU, mU, mU, mU]) (st' := []) (mem' := (mk x y)) 0 rfl ?_
  refine mS_steps (pc' := 10) (ls' := [.ref 279, .int p1, .int ((8 : Int32) * p1), mU, mU, mU]) (st' := [.int p1, .ref 296]) (mem' := (mk x y)) 7 rfl ?_
  refine mS_ald (b := 0) (n := 64) (z := (y.1 296 p1.toNatClampNeg)) rfl (by decide) rfl (by decide) rfl (fun _ => ?_)
  refine mS_bind (fun q1 hq1 => mS_call 144 1 [.int (y.1 296 p1.toNatClampNeg)] [] rfl rfl rfl ⟨_, _, _, rfl, rfl⟩ (Nat.le_of_ble_eq_true rfl) (Nat.le_of_ble_eq_true rfl) hq1 (f_X11_bitsOf_snd (y.1 296 p1.toNatClampNeg) (mk x y)) ?_)
  refine mS_steps (pc' := 21) (ls' := [.ref 279, .int p1, .int ((8 : Int32) * p1), .int q1, .int (1 : Int32), .int (0 : Int32)]) (st' := []) (mem' := (mk x y)) 5 rfl ?_
  refine f_X11_laysOrder_L21_snd p1 ((8 : Int32) * p1) q1 x _ ?_ mF (1 : Int32) (0 : Int32) y
  · intro y3
    refine mS_steps (pc' := 97) (ls' := [.ref 279, .int p1, .int ((8 : Int32) * p1), .int q1, mU, mU]) (st' := [.int p1, .ref 297, .int ((8 : Int32) * p1), .ref 299]) (mem' := (mk x y3)) 6 rfl ?_
    refine mS_ald (b := 0) (n := 64) (z := (y3.1 297 p1.toNatClampNeg)) rfl (by decide) rfl (by decide) rfl (fun _ => ?_)
    refine mS_ast0y (n := 512) rfl rfl (by decide) (fun _ => ?_)
    refine mS_lety (fun y4 => ?_)
    refine mS_steps (pc' := 113) (ls' := [.ref 279, .int p1, .int ((8 : Int32) * p1), .int q1, mU, mU]) (st' := [.int p1, .ref 298, .int ((((8 : Int32) * p1) + q1) - (1 : Int32)), .ref 299]) (mem' := (mk x y4)) 10 rfl ?_
    refine mS_ald (b := 0) (n := 64) (z := (y4.1 298 p1.toNatClampNeg)) rfl (by decide) rfl (by decide) rfl (fun _ => ?_)
    refine mS_ast0y (n := 512) rfl rfl (by decide) (fun _ => ?_)
    refine mS_lety (fun y5 => ?_)
    refine mS_forget [.ref 279, mU, .int ((8 : Int32) * p1), .int q1, mU, mU] ⟨Or.inr rfl, Or.inl rfl, Or.inr rfl, Or.inr rfl, Or.inl rfl, Or.inl rfl, trivial⟩ ?_
    refine f_X11_laysOrder_L115_snd ((8 : Int32) * p1) q1 x mF y5
def f_X11_knowsOne_L19 (a1 : Int32) (a3 : Int32) (a5 : Int32) : Nat → Int32 → mY → (mY → Option mY) → Option mY
  | 0, _, _, _ => none
  | n + 1, a6, y, k74 => (if (y.1 279 34) ≤ a6 then (k74 y) else (if m_in a6 28 = true then (if (f_X11_has (y.1 295 a6.toNatClampNeg) a3) = 0 then (f_X11_knowsOne_L19 a1 a3 a5 n (a6 + (1 : Int32)) y k74) else (if m_in a6 28 = true then (if ((y.1 295 a6.toNatClampNeg) &&& a5) = 0 then (f_X11_knowsOne_L19 a1 a3 a5 n (a6 + (1 : Int32)) y k74) else (if m_in a6 28 = true then (if m_in a1 64 = true then (m_let (m_ys y 296 a1.toNatClampNeg (y.1 295 a6.toNatClampNeg)) fun y2 => (f_X11_knowsOne_L19 a1 a3 a5 n (a6 + (1 : Int32)) y2 k74)) else none) else none)) else none)) else none))
def f_X11_knowsOne_L183 (a1 : Int32) (a6 : Int32) (a7 : Int32) : Nat → Int32 → mY → (Int32 → Option mY) → (Option mY) → Option mY
  | 0, _, _, _, _ => none
  | n + 1, a8, y, k216, k270 => (if a1 ≤ a8 then k270 else (if m_in a8 64 = true then (if (y.1 296 a8.toNatClampNeg) = a6 then (if m_in a8 64 = true then (if (y.1 297 a8.toNatClampNeg) = a7 then (k216 a8) else (f_X11_knowsOne_L183 a1 a6 a7 n (a8 + (1 : Int32)) y k216 k270)) else none) else (f_X11_knowsOne_L183 a1 a6 a7 n (a8 + (1 : Int32)) y k216 k270)) else none))
def f_X11_knowsOne_L219 (a1 : Int32) (a3 : Int32) (a8 : Int32) : Nat → Int32 → mY → Option mY
  | 0, _, _ => none
  | n + 1, a9, y => (if (8 : Int32) ≤ a9 then ((f_X11_knowsHops a1 a3 y).bind fun q10 => (some q10)) else (if m_in (((8 : Int32) * a8) + a9) 512 = true then (if m_in (((8 : Int32) * a1) + a9) 512 = true then (m_let (m_ys y 299 (((8 : Int32) * a1) + a9).toNatClampNeg (y.1 299 (((8 : Int32) * a8) + a9).toNatClampNeg)) fun y11 => (f_X11_knowsOne_L219 a1 a3 a8 n (a9 + (1 : Int32)) y11)) else none) else none))
def f_X11_knowsOne_L97 (a2 : Int32) (a4 : Int32) (a6 : Int32) : Nat → Int32 → Int32 → mY → (Int32 → Option mY) → Option mY
  | 0, _, _, _, _ => none
  | n + 1, a7, a8, y, k150 => (if (8 : Int32) ≤ a8 then (k150 a7) else (if (f_X11_has a6 a8) = 0 then (f_X11_knowsOne_L97 a2 a4 a6 n a7 (a8 + (1 : Int32)) y k150) else ((f_X11_comes (1 : Int32) a2 ((a4 &&& (a6 ^^^ (-1 : Int32))) ||| ((1 : Int32) <<< (a8 &&& 31))) y).bind fun q14 => (if (f_X11_has q14 a8) = 0 then (f_X11_knowsOne_L97 a2 a4 a6 n a7 (a8 + (1 : Int32)) y k150) else (f_X11_knowsOne_L97 a2 a4 a6 n a8 (a8 + (1 : Int32)) y k150)))))
def f_X11_knowsOne (p1 : Int32) (p2 : Int32) (p3 : Int32) (p4 : Int32) (y : mY) : Option mY := ((f_X11_comes (1 : Int32) p2 (p4 &&& (((1 : Int32) <<< (p3 &&& 31)) ^^^ (-1 : Int32))) y).bind fun q1 => (f_X11_knowsOne_L19 p1 p3 q1 mF (0 : Int32) y (fun y3 => (if m_in p1 64 = true then (m_jn (fun v5 => (if m_in p1 64 = true then (m_let (m_ys y3 297 p1.toNatClampNeg v5) fun y6 => (if m_in ((8 : Int32) + v5) 24 = true then ((f_X11_lowestOf ((y6.1 293 ((8 : Int32) + v5).toNatClampNeg) &&& (y3.1 296 p1.toNatClampNeg))).bind fun q7 => (if m_in p1 64 = true then (m_let (m_ys y6 298 p1.toNatClampNeg q7) fun y8 => (f_X11_knowsOne_L183 p1 (y3.1 296 p1.toNatClampNeg) v5 mF (0 : Int32) y8 (fun v9 => (f_X11_knowsOne_L219 p1 p3 v9 mF (0 : Int32) y8)) ((f_X11_laysOrder p1 y8).bind fun q12 => ((f_X11_knowsHops p1 p3 q12).bind fun q13 => (some q13))))) else none)) else none)) else none)) (fun j4 => if (f_X11_has (y3.1 296 p1.toNatClampNeg) p2) = 0 then (f_X11_knowsOne_L97 p2 p4 (y3.1 296 p1.toNatClampNeg) mF p2 (0 : Int32) y3 (fun v15 => (j4 v15))) else (j4 p2))) else none))))
set_option maxRecDepth 20000 in
set_option maxHeartbeats 2000000 in
theorem f_X11_knowsOne_L19_snd {fm : Value} {L : Nat} {xs : Nat → Int32} (a1 : Int32) (a2 : Int32) (a3 : Int32) (a4 : Int32) (a5 : Int32) (x : mX) (k74 : mY → Option mY) (hk74 : ∀ (z0 : mY), mS fm L xs (fun r : mY => (mU, mk x r)) pg_X11_knowsOne 74 [.ref 279, .int a1, .int a2, .int a3, .int a4, mU, mU, mU, mU, mU] [] (mk x z0) (k74 z0)) : ∀ (n : Nat) (a6 : Int32) (y : mY), mS fm L xs (fun r : mY => (mU, mk x r)) pg_X11_knowsOne 19 [.ref 279, .int a1, .int a2, .int a3, .int a4, .int a5, .int a6, mU, mU, mU] [] (mk x y) (f_X11_knowsOne_L19 a1 a3 a5 n a6 y k74) := by
  intro n
  induction n with
  | zero => intro a6 y; exact mS_none
  | succ n ih =>
    intro a6 y
    rw [f_X11_knowsOne_L19]
    refine mS_steps (pc' := 25) (ls' := [.ref 279, .int a1, .int a2, .int a3, .int a4, .int a5, .int a6, mU, mU, mU]) (st' := [.int (y.1 279 34), .int a6]) (mem' := (mk x y)) 3 rfl ?_
    refine mS_ic3 rfl (fun _ => ?_) (fun _ => ?_)
    · refine mS_forget [.ref 279, .int a1, .int a2, .int a3, .int a4, mU, mU, mU, mU, mU] ⟨Or.inr rfl, Or.inr rfl, Or.inr rfl, Or.inr rfl, Or.inr rfl, Or.inl rfl, Or.inl rfl, Or.inl rfl, Or.inl rfl, Or.inl rfl, trivial⟩ ?_
      exact hk74 y
    · refine mS_steps (pc' := 34) (ls' := [.ref 279, .int a1, .int a2, .int a3, .int a4, .int a5, .int a6, mU, mU, mU]) (st' := [.int a6, .ref 295]) (mem' := (mk x y)) 3 rfl ?_
      refine mS_ald (b := 0) (n := 28) (z := (y.1 295 a6.toNatClampNeg)) rfl (by decide) rfl (by decide) rfl (fun _ => ?_)
      refine mS_steps (pc' := 36) (ls' := [.ref 279, .int a1, .int a2, .int a3, .int a4, .int a5, .int a6, mU, mU, mU]) (st' := [.int a3, .int (y.1 295 a6.toNatClampNeg)]) (mem' := (mk x y)) 1 rfl ?_
      refine mS_call (q := (f_X11_has (y.1 295 a6.toNatClampNeg) a3)) 87 2 [.int (y.1 295 a6.toNatClampNeg), .int a3] [] rfl rfl rfl ⟨_, _, _, rfl, rfl⟩ (Nat.le_of_ble_eq_true rfl) (Nat.le_of_ble_eq_true rfl) rfl (f_X11_has_snd (y.1 295 a6.toNatClampNeg) a3 (mk x y)) ?_
      refine mS_steps (pc' := 39) (ls' := [.ref 279, .int a1, .int a2, .int a3, .int a4, .int a5, .int a6, mU, mU, mU]) (st' := [.int (f_X11_has (y.1 295 a6.toNatClampNeg) a3)]) (mem' := (mk x y)) 0 rfl ?_
      refine mS_if0 rfl (fun _ => ?_) (fun _ => ?_)
      · refine mS_steps (pc' := 19) (ls' := [.ref 279, .int a1, .int a2, .int a3, .int a4, .int a5, .int (a6 + (1 : Int32)), mU, mU, mU]) (st' := []) (mem' := (mk x y)) 2 rfl ?_
        exact ih (a6 + (1 : Int32)) y
      · refine mS_steps (pc' := 48) (ls' := [.ref 279, .int a1, .int a2, .int a3, .int a4, .int a5, .int a6, mU, mU, mU]) (st' := [.int a6, .ref 295]) (mem' := (mk x y)) 3 rfl ?_
        refine mS_ald (b := 0) (n := 28) (z := (y.1 295 a6.toNatClampNeg)) rfl (by decide) rfl (by decide) rfl (fun _ => ?_)
        refine mS_steps (pc' := 52) (ls' := [.ref 279, .int a1, .int a2, .int a3, .int a4, .int a5, .int a6, mU, mU, mU]) (st' := [.int ((y.1 295 a6.toNatClampNeg) &&& a5)]) (mem' := (mk x y)) 2 rfl ?_
        refine mS_if0 rfl (fun _ => ?_) (fun _ => ?_)
        · refine mS_steps (pc' := 19) (ls' := [.ref 279, .int a1, .int a2, .int a3, .int a4, .int a5, .int (a6 + (1 : Int32)), mU, mU, mU]) (st' := []) (mem' := (mk x y)) 2 rfl ?_
          exact ih (a6 + (1 : Int32)) y
        · refine mS_steps (pc' := 66) (ls' := [.ref 279, .int a1, .int a2, .int a3, .int a4, .int a5, .int a6, mU, mU, mU]) (st' := [.int a6, .ref 295, .int a1, .ref 296]) (mem' := (mk x y)) 6 rfl ?_
          refine mS_ald (b := 0) (n := 28) (z := (y.1 295 a6.toNatClampNeg)) rfl (by decide) rfl (by decide) rfl (fun _ => ?_)
          refine mS_ast0y (n := 64) rfl rfl (by decide) (fun _ => ?_)
          refine mS_lety (fun y2 => ?_)
          refine mS_steps (pc' := 19) (ls' := [.ref 279, .int a1, .int a2, .int a3, .int a4, .int a5, .int (a6 + (1 : Int32)), mU, mU, mU]) (st' := []) (mem' := (mk x y2)) 2 rfl ?_
          exact ih (a6 + (1 : Int32)) y2
set_option maxRecDepth 20000 in
set_option maxHeartbeats 2000000 in
theorem f_X11_knowsOne_L183_snd {fm : Value} {L : Nat} {xs : Nat → Int32} (a1 : Int32) (a3 : Int32) (a6 : Int32) (a7 : Int32) (y : mY) (x : mX) (k216 : Int32 → Option mY) (k270 : Option mY) (hk216 : ∀ (b8 : Int32), mS fm L xs (fun r : mY => (mU, mk x r)) pg_X11_knowsOne 216 [.ref 279, .int a1, mU, .int a3, mU, mU, mU, mU, .int b8, mU] [] (mk x y) (k216 b8)) (hk270 : mS fm L xs (fun r : mY => (mU, mk x r)) pg_X11_knowsOne 270 [.ref 279, .int a1, mU, .int a3, mU, mU, mU, mU, mU, mU] [] (mk x y) k270) : ∀ (n : Nat) (a8 : Int32), mS fm L xs (fun r : mY => (mU, mk x r)) pg_X11_knowsOne 183 [.ref 279, .int a1, mU, .int a3, mU, mU, .int a6, .int a7, .int a8, mU] [] (mk x y) (f_X11_knowsOne_L183 a1 a6 a7 n a8 y k216 k270) := by
  intro n
  induction n with
  | zero => intro a8; exact mS_none
  | succ n ih =>
    intro a8
    rw [f_X11_knowsOne_L183]
    refine mS_steps (pc' := 186) (ls' := [.ref 279, .int a1, mU, .int a3, mU, mU, .int a6, .int a7, .int a8, mU]) (st' := [.int a1, .int a8]) (mem' := (mk x y)) 2 rfl ?_
    refine mS_ic3 rfl (fun _ => ?_) (fun _ => ?_)
    · refine mS_forget [.ref 279, .int a1, mU, .int a3, mU, mU, mU, mU, mU, mU] ⟨Or.inr rfl, Or.inr rfl, Or.inl rfl, Or.inr rfl, Or.inl rfl, Or.inl rfl, Or.inl rfl, Or.inl rfl, Or.inl rfl, Or.inl rfl, trivial⟩ ?_
      exact hk270 
    · refine mS_steps (pc' := 195) (ls' := [.ref 279, .int a1, mU, .int a3, mU, mU, .int a6, .int a7, .int a8, mU]) (st' := [.int a8, .ref 296]) (mem' := (mk x y)) 3 rfl ?_
      refine mS_ald (b := 0) (n := 64) (z := (y.1 296 a8.toNatClampNeg)) rfl (by decide) rfl (by decide) rfl (fun _ => ?_)
      refine mS_steps (pc' := 198) (ls' := [.ref 279, .int a1, mU, .int a3, mU, mU, .int a6, .int a7, .int a8, mU]) (st' := [.int a6, .int (y.1 296 a8.toNatClampNeg)]) (mem' := (mk x y)) 1 rfl ?_
      refine mS_ic1 rfl (fun _ => ?_) (fun _ => ?_)
      · refine mS_steps (pc' := 207) (ls' := [.ref 279, .int a1, mU, .int a3, mU, mU, .int a6, .int a7, .int a8, mU]) (st' := [.int a8, .ref 297]) (mem' := (mk x y)) 3 rfl ?_
        refine mS_ald (b := 0) (n := 64) (z := (y.1 297 a8.toNatClampNeg)) rfl (by decide) rfl (by decide) rfl (fun _ => ?_)
        refine mS_steps (pc' := 210) (ls' := [.ref 279, .int a1, mU, .int a3, mU, mU, .int a6, .int a7, .int a8, mU]) (st' := [.int a7, .int (y.1 297 a8.toNatClampNeg)]) (mem' := (mk x y)) 1 rfl ?_
        refine mS_ic0 rfl (fun _ => ?_) (fun _ => ?_)
        · refine mS_forget [.ref 279, .int a1, mU, .int a3, mU, mU, mU, mU, .int a8, mU] ⟨Or.inr rfl, Or.inr rfl, Or.inl rfl, Or.inr rfl, Or.inl rfl, Or.inl rfl, Or.inl rfl, Or.inl rfl, Or.inr rfl, Or.inl rfl, trivial⟩ ?_
          exact hk216 a8
        · refine mS_steps (pc' := 183) (ls' := [.ref 279, .int a1, mU, .int a3, mU, mU, .int a6, .int a7, .int (a8 + (1 : Int32)), mU]) (st' := []) (mem' := (mk x y)) 3 rfl ?_
          exact ih (a8 + (1 : Int32))
      · refine mS_steps (pc' := 183) (ls' := [.ref 279, .int a1, mU, .int a3, mU, mU, .int a6, .int a7, .int (a8 + (1 : Int32)), mU]) (st' := []) (mem' := (mk x y)) 2 rfl ?_
        exact ih (a8 + (1 : Int32))
set_option maxRecDepth 20000 in
set_option maxHeartbeats 2000000 in
theorem f_X11_knowsOne_L219_snd {fm : Value} {L : Nat} {xs : Nat → Int32} (a1 : Int32) (a3 : Int32) (a8 : Int32) (x : mX) : ∀ (n : Nat) (a9 : Int32) (y : mY), mS fm L xs (fun r : mY => (mU, mk x r)) pg_X11_knowsOne 219 [.ref 279, .int a1, mU, .int a3, mU, mU, mU, mU, .int a8, .int a9] [] (mk x y) (f_X11_knowsOne_L219 a1 a3 a8 n a9 y) := by
  intro n
  induction n with
  | zero => intro a9 y; exact mS_none
  | succ n ih =>
    intro a9 y
    rw [f_X11_knowsOne_L219]
    refine mS_steps (pc' := 223) (ls' := [.ref 279, .int a1, mU, .int a3, mU, mU, mU, mU, .int a8, .int a9]) (st' := [.int (8 : Int32), .int a9]) (mem' := (mk x y)) 2 rfl ?_
    refine mS_ic3 rfl (fun _ => ?_) (fun _ => ?_)
    · refine mS_steps (pc' := 260) (ls' := [.ref 279, .int a1, mU, .int a3, mU, mU, mU, mU, .int a8, .int a9]) (st' := [.int a3, .int a1, .ref 279]) (mem' := (mk x y)) 3 rfl ?_
      refine mS_bind (fun q10 hq10 => mS_call 150 3 [.ref 279, .int a1, .int a3] [] rfl rfl rfl ⟨_, _, _, rfl, rfl⟩ (Nat.le_of_ble_eq_true rfl) (Nat.le_of_ble_eq_true rfl) hq10 (f_X11_knowsHops_snd a1 a3 y x) ?_)
      refine mS_steps (pc' := 263) (ls' := [.ref 279, .int a1, mU, .int a3, mU, mU, mU, mU, .int a8, .int a9]) (st' := []) (mem' := (mk x q10)) 0 rfl ?_
      exact mS_retv ⟨_, _, _, _, _, rfl⟩ rfl
    · refine mS_steps (pc' := 249) (ls' := [.ref 279, .int a1, mU, .int a3, mU, mU, mU, mU, .int a8, .int a9]) (st' := [.int (((8 : Int32) * a8) + a9), .ref 299, .int (((8 : Int32) * a1) + a9), .ref 299]) (mem' := (mk x y)) 14 rfl ?_
      refine mS_ald (b := 0) (n := 512) (z := (y.1 299 (((8 : Int32) * a8) + a9).toNatClampNeg)) rfl (by decide) rfl (by decide) rfl (fun _ => ?_)
      refine mS_ast0y (n := 512) rfl rfl (by decide) (fun _ => ?_)
      refine mS_lety (fun y11 => ?_)
      refine mS_steps (pc' := 219) (ls' := [.ref 279, .int a1, mU, .int a3, mU, mU, mU, mU, .int a8, .int (a9 + (1 : Int32))]) (st' := []) (mem' := (mk x y11)) 2 rfl ?_
      exact ih (a9 + (1 : Int32)) y11
set_option maxRecDepth 20000 in
set_option maxHeartbeats 2000000 in
theorem f_X11_knowsOne_L97_snd {fm : Value} {L : Nat} {xs : Nat → Int32} (a1 : Int32) (a2 : Int32) (a3 : Int32) (a4 : Int32) (a6 : Int32) (y : mY) (x : mX) (k150 : Int32 → Option mY) (hk150 : ∀ (b7 : Int32), mS fm L xs (fun r : mY => (mU, mk x r)) pg_X11_knowsOne 150 [.ref 279, .int a1, mU, .int a3, mU, mU, .int a6, .int b7, mU, mU] [] (mk x y) (k150 b7)) : ∀ (n : Nat) (a7 : Int32) (a8 : Int32), mS fm L xs (fun r : mY => (mU, mk x r)) pg_X11_knowsOne 97 [.ref 279, .int a1, .int a2, .int a3, .int a4, mU, .int a6, .int a7, .int a8, mU] [] (mk x y) (f_X11_knowsOne_L97 a2 a4 a6 n a7 a8 y k150) := by
  intro n
  induction n with
  | zero => intro a7 a8; exact mS_none
  | succ n ih =>
    intro a7 a8
    rw [f_X11_knowsOne_L97]
    refine mS_steps (pc' := 101) (ls' := [.ref 279, .int a1, .int a2, .int a3, .int a4, mU, .int a6, .int a7, .int a8, mU]) (st' := [.int (8 : Int32), .int a8]) (mem' := (mk x y)) 2 rfl ?_
    refine mS_ic3 rfl (fun _ => ?_) (fun _ => ?_)
    · refine mS_forget [.ref 279, .int a1, mU, .int a3, mU, mU, .int a6, .int a7, mU, mU] ⟨Or.inr rfl, Or.inr rfl, Or.inl rfl, Or.inr rfl, Or.inl rfl, Or.inl rfl, Or.inr rfl, Or.inr rfl, Or.inl rfl, Or.inl rfl, trivial⟩ ?_
      exact hk150 a7
    · refine mS_steps (pc' := 108) (ls' := [.ref 279, .int a1, .int a2, .int a3, .int a4, mU, .int a6, .int a7, .int a8, mU]) (st' := [.int a8, .int a6]) (mem' := (mk x y)) 2 rfl ?_
      refine mS_call (q := (f_X11_has a6 a8)) 87 2 [.int a6, .int a8] [] rfl rfl rfl ⟨_, _, _, rfl, rfl⟩ (Nat.le_of_ble_eq_true rfl) (Nat.le_of_ble_eq_true rfl) rfl (f_X11_has_snd a6 a8 (mk x y)) ?_
      refine mS_steps (pc' := 111) (ls' := [.ref 279, .int a1, .int a2, .int a3, .int a4, mU, .int a6, .int a7, .int a8, mU]) (st' := [.int (f_X11_has a6 a8)]) (mem' := (mk x y)) 0 rfl ?_
      refine mS_if0 rfl (fun _ => ?_) (fun _ => ?_)
      · refine mS_steps (pc' := 97) (ls' := [.ref 279, .int a1, .int a2, .int a3, .int a4, mU, .int a6, .int a7, .int (a8 + (1 : Int32)), mU]) (st' := []) (mem' := (mk x y)) 2 rfl ?_
        exact ih a7 (a8 + (1 : Int32))
      · refine mS_steps (pc' := 129) (ls' := [.ref 279, .int a1, .int a2, .int a3, .int a4, mU, .int a6, .int a7, .int a8, mU]) (st' := [.int ((a4 &&& (a6 ^^^ (-1 : Int32))) ||| ((1 : Int32) <<< (a8 &&& 31))), .int a2, .int (1 : Int32), .ref 279]) (mem' := (mk x y)) 12 rfl ?_
        refine mS_bind (fun q14 hq14 => mS_call 146 4 [.ref 279, .int (1 : Int32), .int a2, .int ((a4 &&& (a6 ^^^ (-1 : Int32))) ||| ((1 : Int32) <<< (a8 &&& 31)))] [] rfl rfl rfl ⟨_, _, _, rfl, rfl⟩ (Nat.le_of_ble_eq_true rfl) (Nat.le_of_ble_eq_true rfl) hq14 (f_X11_comes_snd (1 : Int32) a2 ((a4 &&& (a6 ^^^ (-1 : Int32))) ||| ((1 : Int32) <<< (a8 &&& 31))) y x) ?_)
        refine mS_steps (pc' := 134) (ls' := [.ref 279, .int a1, .int a2, .int a3, .int a4, mU, .int a6, .int a7, .int a8, mU]) (st' := [.int a8, .int q14]) (mem' := (mk x y)) 1 rfl ?_
        refine mS_call (q := (f_X11_has q14 a8)) 87 2 [.int q14, .int a8] [] rfl rfl rfl ⟨_, _, _, rfl, rfl⟩ (Nat.le_of_ble_eq_true rfl) (Nat.le_of_ble_eq_true rfl) rfl (f_X11_has_snd q14 a8 (mk x y)) ?_
        refine mS_steps (pc' := 137) (ls' := [.ref 279, .int a1, .int a2, .int a3, .int a4, mU, .int a6, .int a7, .int a8, mU]) (st' := [.int (f_X11_has q14 a8)]) (mem' := (mk x y)) 0 rfl ?_
        refine mS_if0 rfl (fun _ => ?_) (fun _ => ?_)
        · refine mS_steps (pc' := 97) (ls' := [.ref 279, .int a1, .int a2, .int a3, .int a4, mU, .int a6, .int a7, .int (a8 + (1 : Int32)), mU]) (st' := []) (mem' := (mk x y)) 2 rfl ?_
          exact ih a7 (a8 + (1 : Int32))
        · refine mS_steps (pc' := 97) (ls' := [.ref 279, .int a1, .int a2, .int a3, .int a4, mU, .int a6, .int a8, .int (a8 + (1 : Int32)), mU]) (st' := []) (mem' := (mk x y)) 4 rfl ?_
          exact ih a8 (a8 + (1 : Int32))
set_option maxRecDepth 20000 in
set_option maxHeartbeats 2000000 in
theorem f_X11_knowsOne_snd {fm : Value} {L : Nat} {xs : Nat → Int32} (p1 : Int32) (p2 : Int32) (p3 : Int32) (p4 : Int32) (y : mY) (x : mX) : mS fm L xs (fun r : mY => (mU, mk x r)) pg_X11_knowsOne 0 (m_entry [.ref 279, .int p1, .int p2, .int p3, .int p4] 10) [] (mk x y) ((f_X11_knowsOne p1 p2 p3 p4 y)) := by
  unfold f_X11_knowsOne
  refine mS_steps (pc' := 0) (ls' := [.ref 279, .int p1, .int p2, .int p3, .int p4, mU, mU, mU, mU, mU]) (st' := []) (mem' := (mk x y)) 0 rfl ?_
  refine mS_steps (pc' := 11) (ls' := [.ref 279, .int p1, .int p2, .int p3, .int p4, mU, mU, mU, mU, mU]) (st' := [.int (p4 &&& (((1 : Int32) <<< (p3 &&& 31)) ^^^ (-1 : Int32))), .int p2, .int (1 : Int32), .ref 279]) (mem' := (mk x y)) 10 rfl ?_
  refine mS_bind (fun q1 hq1 => mS_call 146 4 [.ref 279, .int (1 : Int32), .int p2, .int (p4 &&& (((1 : Int32) <<< (p3 &&& 31)) ^^^ (-1 : Int32)))] [] rfl rfl rfl ⟨_, _, _, rfl, rfl⟩ (Nat.le_of_ble_eq_true rfl) (Nat.le_of_ble_eq_true rfl) hq1 (f_X11_comes_snd (1 : Int32) p2 (p4 &&& (((1 : Int32) <<< (p3 &&& 31)) ^^^ (-1 : Int32))) y x) ?_)
  refine mS_steps (pc' := 19) (ls' := [.ref 279, .int p1, .int p2, .int p3, .int p4, .int q1, .int (0 : Int32), mU, mU, mU]) (st' := []) (mem' := (mk x y)) 3 rfl ?_
  refine f_X11_knowsOne_L19_snd p1 p2 p3 p4 q1 x _ ?_ mF (0 : Int32) y
  · intro y3
    refine mS_steps (pc' := 79) (ls' := [.ref 279, .int p1, .int p2, .int p3, .int p4, mU, mU, mU, mU, mU]) (st' := [.int p1, .ref 296]) (mem' := (mk x y3)) 3 rfl ?_
    refine mS_ald (b := 0) (n := 64) (z := (y3.1 296 p1.toNatClampNeg)) rfl (by decide) rfl (by decide) rfl (fun _ => ?_)
    refine mS_steps (pc' := 88) (ls' := [.ref 279, .int p1, .int p2, .int p3, .int p4, mU, .int (y3.1 296 p1.toNatClampNeg), .int p2, mU, mU]) (st' := [.int p2, .int (y3.1 296 p1.toNatClampNeg)]) (mem' := (mk x y3)) 5 rfl ?_
    refine mS_call (q := (f_X11_has (y3.1 296 p1.toNatClampNeg) p2)) 87 2 [.int (y3.1 296 p1.toNatClampNeg), .int p2] [] rfl rfl rfl ⟨_, _, _, rfl, rfl⟩ (Nat.le_of_ble_eq_true rfl) (Nat.le_of_ble_eq_true rfl) rfl (f_X11_has_snd (y3.1 296 p1.toNatClampNeg) p2 (mk x y3)) ?_
    refine mS_steps (pc' := 91) (ls' := [.ref 279, .int p1, .int p2, .int p3, .int p4, mU, .int (y3.1 296 p1.toNatClampNeg), .int p2, mU, mU]) (st' := [.int (f_X11_has (y3.1 296 p1.toNatClampNeg) p2)]) (mem' := (mk x y3)) 0 rfl ?_
    refine mS_jn (fun j => ∀ z : Int32, mS fm L xs (fun r : mY => (mU, mk x r)) pg_X11_knowsOne 150 [.ref 279, .int p1, mU, .int p3, mU, mU, .int (y3.1 296 p1.toNatClampNeg), .int z, mU, mU] [] (mk x y3) (j z)) ?_ ?_
    · intro z
      revert z; intro v5
      refine mS_steps (pc' := 157) (ls' := [.ref 279, .int p1, mU, .int p3, mU, mU, .int (y3.1 296 p1.toNatClampNeg), .int v5, mU, mU]) (st' := [.int v5, .int p1, .ref 297]) (mem' := (mk x y3)) 4 rfl ?_
      refine mS_ast0y (n := 64) rfl rfl (by decide) (fun _ => ?_)
      refine mS_lety (fun y6 => ?_)
      refine mS_steps (pc' := 172) (ls' := [.ref 279, .int p1, mU, .int p3, mU, mU, .int (y3.1 296 p1.toNatClampNeg), .int v5, mU, mU]) (st' := [.int ((8 : Int32) + v5), .ref 293, .int p1, .ref 298]) (mem' := (mk x y6)) 8 rfl ?_
      refine mS_ald (b := 0) (n := 24) (z := (y6.1 293 ((8 : Int32) + v5).toNatClampNeg)) rfl (by decide) rfl (by decide) rfl (fun _ => ?_)
      refine mS_steps (pc' := 176) (ls' := [.ref 279, .int p1, mU, .int p3, mU, mU, .int (y3.1 296 p1.toNatClampNeg), .int v5, mU, mU]) (st' := [.int ((y6.1 293 ((8 : Int32) + v5).toNatClampNeg) &&& (y3.1 296 p1.toNatClampNeg)), .int p1, .ref 298]) (mem' := (mk x y6)) 2 rfl ?_
      refine mS_bind (fun q7 hq7 => mS_call 145 1 [.int ((y6.1 293 ((8 : Int32) + v5).toNatClampNeg) &&& (y3.1 296 p1.toNatClampNeg))] [.int p1, .ref 298] rfl rfl rfl ⟨_, _, _, rfl, rfl⟩ (Nat.le_of_ble_eq_true rfl) (Nat.le_of_ble_eq_true rfl) hq7 (f_X11_lowestOf_snd ((y6.1 293 ((8 : Int32) + v5).toNatClampNeg) &&& (y3.1 296 p1.toNatClampNeg)) (mk x y6)) ?_)
      refine mS_steps (pc' := 179) (ls' := [.ref 279, .int p1, mU, .int p3, mU, mU, .int (y3.1 296 p1.toNatClampNeg), .int v5, mU, mU]) (st' := [.int q7, .int p1, .ref 298]) (mem' := (mk x y6)) 0 rfl ?_
      refine mS_ast0y (n := 64) rfl rfl (by decide) (fun _ => ?_)
      refine mS_lety (fun y8 => ?_)
      refine mS_steps (pc' := 183) (ls' := [.ref 279, .int p1, mU, .int p3, mU, mU, .int (y3.1 296 p1.toNatClampNeg), .int v5, .int (0 : Int32), mU]) (st' := []) (mem' := (mk x y8)) 2 rfl ?_
      refine f_X11_knowsOne_L183_snd p1 p3 (y3.1 296 p1.toNatClampNeg) v5 y8 x _ _ ?_ ?_ mF (0 : Int32)
      · intro v9
        refine mS_steps (pc' := 219) (ls' := [.ref 279, .int p1, mU, .int p3, mU, mU, mU, mU, .int v9, .int (0 : Int32)]) (st' := []) (mem' := (mk x y8)) 2 rfl ?_
        refine f_X11_knowsOne_L219_snd p1 p3 v9 x mF (0 : Int32) y8
      · refine mS_steps (pc' := 272) (ls' := [.ref 279, .int p1, mU, .int p3, mU, mU, mU, mU, mU, mU]) (st' := [.int p1, .ref 279]) (mem' := (mk x y8)) 2 rfl ?_
        refine mS_bind (fun q12 hq12 => mS_call 154 2 [.ref 279, .int p1] [] rfl rfl rfl ⟨_, _, _, rfl, rfl⟩ (Nat.le_of_ble_eq_true rfl) (Nat.le_of_ble_eq_true rfl) hq12 (f_X11_laysOrder_snd p1 y8 x) ?_)
        refine mS_steps (pc' := 278) (ls' := [.ref 279, .int p1, mU, .int p3, mU, mU, mU, mU, mU, mU]) (st' := [.int p3, .int p1, .ref 279]) (mem' := (mk x q12)) 3 rfl ?_
        refine mS_bind (fun q13 hq13 => mS_call 150 3 [.ref 279, .int p1, .int p3] [] rfl rfl rfl ⟨_, _, _, rfl, rfl⟩ (Nat.le_of_ble_eq_true rfl) (Nat.le_of_ble_eq_true rfl) hq13 (f_X11_knowsHops_snd p1 p3 q12 x) ?_)
        refine mS_steps (pc' := 281) (ls' := [.ref 279, .int p1, mU, .int p3, mU, mU, mU, mU, mU, mU]) (st' := []) (mem' := (mk x q13)) 0 rfl ?_
        exact mS_retv ⟨_, _, _, _, _, rfl⟩ rfl
    intro j4 hj4
    refine mS_if1 rfl (fun _ => ?_) (fun _ => ?_)
    · refine mS_steps (pc' := 97) (ls' := [.ref 279, .int p1, .int p2, .int p3, .int p4, mU, .int (y3.1 296 p1.toNatClampNeg), .int p2, .int (0 : Int32), mU]) (st' := []) (mem' := (mk x y3)) 2 rfl ?_
      refine f_X11_knowsOne_L97_snd p1 p2 p3 p4 (y3.1 296 p1.toNatClampNeg) y3 x _ ?_ mF p2 (0 : Int32)
      · intro v15
        exact hj4 v15
    · refine mS_forget [.ref 279, .int p1, mU, .int p3, mU, mU, .int (y3.1 296 p1.toNatClampNeg), .int p2, mU, mU] ⟨Or.inr rfl, Or.inr rfl, Or.inl rfl, Or.inr rfl, Or.inl rfl, Or.inl rfl, Or.inr rfl, Or.inr rfl, Or.inl rfl, Or.inl rfl, trivial⟩ ?_
      exact hj4 p2
def f_X11_knows_L27 (a1 : Int32) : Nat → Int32 → mY → Option mY
  | 0, _, _ => none
  | n + 1, a2, y => (if (64 : Int32) ≤ a2 then (some y) else (if m_in a2 64 = true then (m_let (m_ys y 296 a2.toNatClampNeg (0 : Int32)) fun y4 => (if (a2 / (8 : Int32)) = (a2 - a2 / (8 : Int32) * (8 : Int32)) then (f_X11_knows_L27 a1 n (a2 + (1 : Int32)) y4) else (if (f_X11_has a1 (a2 / (8 : Int32))) = 0 then (f_X11_knows_L27 a1 n (a2 + (1 : Int32)) y4) else (if (f_X11_has a1 (a2 - a2 / (8 : Int32) * (8 : Int32))) = 0 then (f_X11_knows_L27 a1 n (a2 + (1 : Int32)) y4) else ((f_X11_comes (1 : Int32) (a2 / (8 : Int32)) a1 y4).bind fun q5 => (if (f_X11_has q5 (a2 - a2 / (8 : Int32) * (8 : Int32))) = 0 then (f_X11_knows_L27 a1 n (a2 + (1 : Int32)) y4) else ((f_X11_knowsOne a2 (a2 / (8 : Int32)) (a2 - a2 / (8 : Int32) * (8 : Int32)) a1 y4).bind fun q6 => (f_X11_knows_L27 a1 n (a2 + (1 : Int32)) q6)))))))) else none))
def f_X11_knows (y : mY) : Option mY := (if (y.1 279 30) = 0 then (m_let (m_ys y 279 30 (1 : Int32)) fun y1 => ((f_X11_laysNet (1 : Int32) y1).bind fun q2 => ((f_X11_laysBlocks (1 : Int32) q2.1 q2.2).bind fun q3 => (f_X11_knows_L27 q2.1 mF (0 : Int32) q3)))) else (some y))
set_option maxRecDepth 20000 in
set_option maxHeartbeats 2000000 in
theorem f_X11_knows_L27_snd {fm : Value} {L : Nat} {xs : Nat → Int32} (a1 : Int32) (x : mX) : ∀ (n : Nat) (a2 : Int32) (y : mY), mS fm L xs (fun r : mY => (mU, mk x r)) pg_X11_knows 27 [.ref 279, .int a1, .int a2, mU, mU] [] (mk x y) (f_X11_knows_L27 a1 n a2 y) := by
  intro n
  induction n with
  | zero => intro a2 y; exact mS_none
  | succ n ih =>
    intro a2 y
    rw [f_X11_knows_L27]
    refine mS_steps (pc' := 30) (ls' := [.ref 279, .int a1, .int a2, mU, mU]) (st' := [.int (64 : Int32), .int a2]) (mem' := (mk x y)) 2 rfl ?_
    refine mS_ic3 rfl (fun _ => ?_) (fun _ => ?_)
    · exact mS_retv ⟨_, _, _, _, _, rfl⟩ rfl
    · refine mS_steps (pc' := 39) (ls' := [.ref 279, .int a1, .int a2, mU, mU]) (st' := [.int (0 : Int32), .int a2, .ref 296]) (mem' := (mk x y)) 4 rfl ?_
      refine mS_ast0y (n := 64) rfl rfl (by decide) (fun _ => ?_)
      refine mS_lety (fun y4 => ?_)
      refine mS_steps (pc' := 43) (ls' := [.ref 279, .int a1, .int a2, mU, mU]) (st' := [.int (8 : Int32), .int a2]) (mem' := (mk x y4)) 2 rfl ?_
      refine mS_div rfl (by decide) ?_
      refine mS_steps (pc' := 48) (ls' := [.ref 279, .int a1, .int a2, .int (a2 / (8 : Int32)), mU]) (st' := [.int (8 : Int32), .int a2]) (mem' := (mk x y4)) 3 rfl ?_
      refine mS_rem rfl (by decide) ?_
      refine mS_steps (pc' := 54) (ls' := [.ref 279, .int a1, .int a2, .int (a2 / (8 : Int32)), .int (a2 - a2 / (8 : Int32) * (8 : Int32))]) (st' := [.int (a2 - a2 / (8 : Int32) * (8 : Int32)), .int (a2 / (8 : Int32))]) (mem' := (mk x y4)) 3 rfl ?_
      refine mS_ic0 rfl (fun _ => ?_) (fun _ => ?_)
      · refine mS_steps (pc' := 27) (ls' := [.ref 279, .int a1, .int (a2 + (1 : Int32)), .int (a2 / (8 : Int32)), .int (a2 - a2 / (8 : Int32) * (8 : Int32))]) (st' := []) (mem' := (mk x y4)) 2 rfl ?_
        refine mS_forget [.ref 279, .int a1, .int (a2 + (1 : Int32)), mU, mU] ⟨Or.inr rfl, Or.inr rfl, Or.inr rfl, Or.inl rfl, Or.inl rfl, trivial⟩ ?_
        exact ih (a2 + (1 : Int32)) y4
      · refine mS_steps (pc' := 59) (ls' := [.ref 279, .int a1, .int a2, .int (a2 / (8 : Int32)), .int (a2 - a2 / (8 : Int32) * (8 : Int32))]) (st' := [.int (a2 / (8 : Int32)), .int a1]) (mem' := (mk x y4)) 2 rfl ?_
        refine mS_call (q := (f_X11_has a1 (a2 / (8 : Int32)))) 87 2 [.int a1, .int (a2 / (8 : Int32))] [] rfl rfl rfl ⟨_, _, _, rfl, rfl⟩ (Nat.le_of_ble_eq_true rfl) (Nat.le_of_ble_eq_true rfl) rfl (f_X11_has_snd a1 (a2 / (8 : Int32)) (mk x y4)) ?_
        refine mS_steps (pc' := 62) (ls' := [.ref 279, .int a1, .int a2, .int (a2 / (8 : Int32)), .int (a2 - a2 / (8 : Int32) * (8 : Int32))]) (st' := [.int (f_X11_has a1 (a2 / (8 : Int32)))]) (mem' := (mk x y4)) 0 rfl ?_
        refine mS_if0 rfl (fun _ => ?_) (fun _ => ?_)
        · refine mS_steps (pc' := 27) (ls' := [.ref 279, .int a1, .int (a2 + (1 : Int32)), .int (a2 / (8 : Int32)), .int (a2 - a2 / (8 : Int32) * (8 : Int32))]) (st' := []) (mem' := (mk x y4)) 2 rfl ?_
          refine mS_forget [.ref 279, .int a1, .int (a2 + (1 : Int32)), mU, mU] ⟨Or.inr rfl, Or.inr rfl, Or.inr rfl, Or.inl rfl, Or.inl rfl, trivial⟩ ?_
          exact ih (a2 + (1 : Int32)) y4
        · refine mS_steps (pc' := 68) (ls' := [.ref 279, .int a1, .int a2, .int (a2 / (8 : Int32)), .int (a2 - a2 / (8 : Int32) * (8 : Int32))]) (st' := [.int (a2 - a2 / (8 : Int32) * (8 : Int32)), .int a1]) (mem' := (mk x y4)) 2 rfl ?_
          refine mS_call (q := (f_X11_has a1 (a2 - a2 / (8 : Int32) * (8 : Int32)))) 87 2 [.int a1, .int (a2 - a2 / (8 : Int32) * (8 : Int32))] [] rfl rfl rfl ⟨_, _, _, rfl, rfl⟩ (Nat.le_of_ble_eq_true rfl) (Nat.le_of_ble_eq_true rfl) rfl (f_X11_has_snd a1 (a2 - a2 / (8 : Int32) * (8 : Int32)) (mk x y4)) ?_
          refine mS_steps (pc' := 71) (ls' := [.ref 279, .int a1, .int a2, .int (a2 / (8 : Int32)), .int (a2 - a2 / (8 : Int32) * (8 : Int32))]) (st' := [.int (f_X11_has a1 (a2 - a2 / (8 : Int32) * (8 : Int32)))]) (mem' := (mk x y4)) 0 rfl ?_
          refine mS_if0 rfl (fun _ => ?_) (fun _ => ?_)
          · refine mS_steps (pc' := 27) (ls' := [.ref 279, .int a1, .int (a2 + (1 : Int32)), .int (a2 / (8 : Int32)), .int (a2 - a2 / (8 : Int32) * (8 : Int32))]) (st' := []) (mem' := (mk x y4)) 2 rfl ?_
            refine mS_forget [.ref 279, .int a1, .int (a2 + (1 : Int32)), mU, mU] ⟨Or.inr rfl, Or.inr rfl, Or.inr rfl, Or.inl rfl, Or.inl rfl, trivial⟩ ?_
            exact ih (a2 + (1 : Int32)) y4
          · refine mS_steps (pc' := 78) (ls' := [.ref 279, .int a1, .int a2, .int (a2 / (8 : Int32)), .int (a2 - a2 / (8 : Int32) * (8 : Int32))]) (st' := [.int a1, .int (a2 / (8 : Int32)), .int (1 : Int32), .ref 279]) (mem' := (mk x y4)) 4 rfl ?_
            refine mS_bind (fun q5 hq5 => mS_call 146 4 [.ref 279, .int (1 : Int32), .int (a2 / (8 : Int32)), .int a1] [] rfl rfl rfl ⟨_, _, _, rfl, rfl⟩ (Nat.le_of_ble_eq_true rfl) (Nat.le_of_ble_eq_true rfl) hq5 (f_X11_comes_snd (1 : Int32) (a2 / (8 : Int32)) a1 y4 x) ?_)
            refine mS_steps (pc' := 83) (ls' := [.ref 279, .int a1, .int a2, .int (a2 / (8 : Int32)), .int (a2 - a2 / (8 : Int32) * (8 : Int32))]) (st' := [.int (a2 - a2 / (8 : Int32) * (8 : Int32)), .int q5]) (mem' := (mk x y4)) 1 rfl ?_
            refine mS_call (q := (f_X11_has q5 (a2 - a2 / (8 : Int32) * (8 : Int32)))) 87 2 [.int q5, .int (a2 - a2 / (8 : Int32) * (8 : Int32))] [] rfl rfl rfl ⟨_, _, _, rfl, rfl⟩ (Nat.le_of_ble_eq_true rfl) (Nat.le_of_ble_eq_true rfl) rfl (f_X11_has_snd q5 (a2 - a2 / (8 : Int32) * (8 : Int32)) (mk x y4)) ?_
            refine mS_steps (pc' := 86) (ls' := [.ref 279, .int a1, .int a2, .int (a2 / (8 : Int32)), .int (a2 - a2 / (8 : Int32) * (8 : Int32))]) (st' := [.int (f_X11_has q5 (a2 - a2 / (8 : Int32) * (8 : Int32)))]) (mem' := (mk x y4)) 0 rfl ?_
            refine mS_if0 rfl (fun _ => ?_) (fun _ => ?_)
            · refine mS_steps (pc' := 27) (ls' := [.ref 279, .int a1, .int (a2 + (1 : Int32)), .int (a2 / (8 : Int32)), .int (a2 - a2 / (8 : Int32) * (8 : Int32))]) (st' := []) (mem' := (mk x y4)) 2 rfl ?_
              refine mS_forget [.ref 279, .int a1, .int (a2 + (1 : Int32)), mU, mU] ⟨Or.inr rfl, Or.inr rfl, Or.inr rfl, Or.inl rfl, Or.inl rfl, trivial⟩ ?_
              exact ih (a2 + (1 : Int32)) y4
            · refine mS_steps (pc' := 95) (ls' := [.ref 279, .int a1, .int a2, .int (a2 / (8 : Int32)), .int (a2 - a2 / (8 : Int32) * (8 : Int32))]) (st' := [.int a1, .int (a2 - a2 / (8 : Int32) * (8 : Int32)), .int (a2 / (8 : Int32)), .int a2, .ref 279]) (mem' := (mk x y4)) 5 rfl ?_
              refine mS_bind (fun q6 hq6 => mS_call 155 5 [.ref 279, .int a2, .int (a2 / (8 : Int32)), .int (a2 - a2 / (8 : Int32) * (8 : Int32)), .int a1] [] rfl rfl rfl ⟨_, _, _, rfl, rfl⟩ (Nat.le_of_ble_eq_true rfl) (Nat.le_of_ble_eq_true rfl) hq6 (f_X11_knowsOne_snd a2 (a2 / (8 : Int32)) (a2 - a2 / (8 : Int32) * (8 : Int32)) a1 y4 x) ?_)
              refine mS_steps (pc' := 27) (ls' := [.ref 279, .int a1, .int (a2 + (1 : Int32)), .int (a2 / (8 : Int32)), .int (a2 - a2 / (8 : Int32) * (8 : Int32))]) (st' := []) (mem' := (mk x q6)) 2 rfl ?_
              refine mS_forget [.ref 279, .int a1, .int (a2 + (1 : Int32)), mU, mU] ⟨Or.inr rfl, Or.inr rfl, Or.inr rfl, Or.inl rfl, Or.inl rfl, trivial⟩ ?_
              exact ih (a2 + (1 : Int32)) q6
set_option maxRecDepth 20000 in
set_option maxHeartbeats 2000000 in
theorem f_X11_knows_snd {fm : Value} {L : Nat} {xs : Nat → Int32} (y : mY) (x : mX) : mS fm L xs (fun r : mY => (mU, mk x r)) pg_X11_knows 0 (m_entry [.ref 279] 5) [] (mk x y) ((f_X11_knows y)) := by
  unfold f_X11_knows
  refine mS_steps (pc' := 0) (ls' := [.ref 279, mU, mU, mU, mU]) (st' := []) (mem' := (mk x y)) 0 rfl ?_
  refine mS_steps (pc' := 4) (ls' := [.ref 279, mU, mU, mU, mU]) (st' := [.int (y.1 279 30)]) (mem' := (mk x y)) 2 rfl ?_
  refine mS_if0 rfl (fun _ => ?_) (fun _ => ?_)
  · refine mS_steps (pc' := 10) (ls' := [.ref 279, mU, mU, mU, mU]) (st' := [.int (1 : Int32), .ref 279]) (mem' := (mk x y)) 2 rfl ?_
    refine mS_putcy rfl rfl (by decide) rfl (by decide) ?_
    refine mS_lety (fun y1 => ?_)
    refine mS_steps (pc' := 15) (ls' := [.ref 279, mU, mU, mU, mU]) (st' := [.int (1 : Int32), .ref 279]) (mem' := (mk x y1)) 2 rfl ?_
    refine mS_bind (fun q2 hq2 => mS_call 143 2 [.ref 279, .int (1 : Int32)] [] rfl rfl rfl ⟨_, _, _, rfl, rfl⟩ (Nat.le_of_ble_eq_true rfl) (Nat.le_of_ble_eq_true rfl) hq2 (f_X11_laysNet_snd (1 : Int32) y1 x) ?_)
    refine mS_steps (pc' := 22) (ls' := [.ref 279, .int q2.1, mU, mU, mU]) (st' := [.int q2.1, .int (1 : Int32), .ref 279]) (mem' := (mk x q2.2)) 4 rfl ?_
    refine mS_bind (fun q3 hq3 => mS_call 149 3 [.ref 279, .int (1 : Int32), .int q2.1] [] rfl rfl rfl ⟨_, _, _, rfl, rfl⟩ (Nat.le_of_ble_eq_true rfl) (Nat.le_of_ble_eq_true rfl) hq3 (f_X11_laysBlocks_snd (1 : Int32) q2.1 q2.2 x) ?_)
    refine mS_steps (pc' := 27) (ls' := [.ref 279, .int q2.1, .int (0 : Int32), mU, mU]) (st' := []) (mem' := (mk x q3)) 2 rfl ?_
    refine f_X11_knows_L27_snd q2.1 x mF (0 : Int32) q3
  · exact mS_retv ⟨_, _, _, _, _, rfl⟩ rfl
def f_X11_hopOf (p1 : Int32) (p2 : Int32) (p3 : Int32) (y : mY) : Option Int32 := (if p3 = 0 then (if m_in (((8 : Int32) * p1) + p2) 64 = true then (some (y.1 300 (((8 : Int32) * p1) + p2).toNatClampNeg)) else none) else (if m_in (((8 : Int32) * p1) + p2) 64 = true then (some (y.1 301 (((8 : Int32) * p1) + p2).toNatClampNeg)) else none))
set_option maxRecDepth 20000 in
set_option maxHeartbeats 2000000 in
theorem f_X11_hopOf_snd {fm : Value} {L : Nat} {xs : Nat → Int32} (p1 : Int32) (p2 : Int32) (p3 : Int32) (y : mY) (x : mX) : mS fm L xs (fun r : Int32 => (.int r, (mk x y))) pg_X11_hopOf 0 (m_entry [.ref 279, .int p1, .int p2, .int p3] 4) [] (mk x y) ((f_X11_hopOf p1 p2 p3 y)) := by
  unfold f_X11_hopOf
  refine mS_steps (pc' := 0) (ls' := [.ref 279, .int p1, .int p2, .int p3]) (st' := []) (mem' := (mk x y)) 0 rfl ?_
  refine mS_steps (pc' := 1) (ls' := [.ref 279, .int p1, .int p2, .int p3]) (st' := [.int p3]) (mem' := (mk x y)) 1 rfl ?_
  refine mS_if1 rfl (fun _ => ?_) (fun _ => ?_)
  · refine mS_steps (pc' := 14) (ls' := [.ref 279, .int p1, .int p2, .int p3]) (st' := [.int (((8 : Int32) * p1) + p2), .ref 300]) (mem' := (mk x y)) 7 rfl ?_
    refine mS_ald (b := 0) (n := 64) (z := (y.1 300 (((8 : Int32) * p1) + p2).toNatClampNeg)) rfl (by decide) rfl (by decide) rfl (fun _ => ?_)
    refine mS_steps (pc' := 29) (ls' := [.ref 279, .int p1, .int p2, .int p3]) (st' := [.int (y.1 300 (((8 : Int32) * p1) + p2).toNatClampNeg)]) (mem' := (mk x y)) 1 rfl ?_
    exact mS_reti ⟨_, _, _, _, _, rfl, rfl⟩ rfl
  · refine mS_steps (pc' := 28) (ls' := [.ref 279, .int p1, .int p2, .int p3]) (st' := [.int (((8 : Int32) * p1) + p2), .ref 301]) (mem' := (mk x y)) 7 rfl ?_
    refine mS_ald (b := 0) (n := 64) (z := (y.1 301 (((8 : Int32) * p1) + p2).toNatClampNeg)) rfl (by decide) rfl (by decide) rfl (fun _ => ?_)
    exact mS_reti ⟨_, _, _, _, _, rfl, rfl⟩ rfl
def f_X11_linkOfHop (p1 : Int32) (p2 : Int32) (p3 : Int32) (p4 : Int32) (y : mY) : Option Int32 := (if m_in (((8 : Int32) * p1) + p2) 64 = true then (if (y.1 296 (((8 : Int32) * p1) + p2).toNatClampNeg) = 0 then (some (-1 : Int32)) else ((f_X11_hopOf p1 p2 p3 y).bind fun q1 => ((f_X11_between p2 q1 y).bind fun q2 => (if (f_X11_has ((y.1 289 1) &&& (p4 ^^^ (-1 : Int32))) q2) = 0 then (some (-1 : Int32)) else ((f_X11_isOn q1 y).bind fun q3 => (if q3 = 0 then (some (-1 : Int32)) else (some q2))))))) else none)
set_option maxRecDepth 20000 in
set_option maxHeartbeats 2000000 in
theorem f_X11_linkOfHop_snd {fm : Value} {L : Nat} {xs : Nat → Int32} (p1 : Int32) (p2 : Int32) (p3 : Int32) (p4 : Int32) (y : mY) (x : mX) : mS fm L xs (fun r : Int32 => (.int r, (mk x y))) pg_X11_linkOfHop 0 (m_entry [.ref 279, .int p1, .int p2, .int p3, .int p4] 7) [] (mk x y) ((f_X11_linkOfHop p1 p2 p3 p4 y)) := by
  unfold f_X11_linkOfHop
  refine mS_steps (pc' := 0) (ls' := [.ref 279, .int p1, .int p2, .int p3, .int p4, mU, mU]) (st' := []) (mem' := (mk x y)) 0 rfl ?_
  refine mS_steps (pc' := 10) (ls' := [.ref 279, .int p1, .int p2, .int p3, .int p4, mU, mU]) (st' := [.int (((8 : Int32) * p1) + p2), .ref 296]) (mem' := (mk x y)) 7 rfl ?_
  refine mS_ald (b := 0) (n := 64) (z := (y.1 296 (((8 : Int32) * p1) + p2).toNatClampNeg)) rfl (by decide) rfl (by decide) rfl (fun _ => ?_)
  refine mS_if1 rfl (fun _ => ?_) (fun _ => ?_)
  · refine mS_steps (pc' := 15) (ls' := [.ref 279, .int p1, .int p2, .int p3, .int p4, mU, mU]) (st' := [.int (-1 : Int32)]) (mem' := (mk x y)) 1 rfl ?_
    exact mS_reti ⟨_, _, _, _, _, rfl, rfl⟩ rfl
  · refine mS_steps (pc' := 20) (ls' := [.ref 279, .int p1, .int p2, .int p3, .int p4, mU, mU]) (st' := [.int p3, .int p2, .int p1, .ref 279]) (mem' := (mk x y)) 4 rfl ?_
    refine mS_bind (fun q1 hq1 => mS_call 157 4 [.ref 279, .int p1, .int p2, .int p3] [] rfl rfl rfl ⟨_, _, _, rfl, rfl⟩ (Nat.le_of_ble_eq_true rfl) (Nat.le_of_ble_eq_true rfl) hq1 (f_X11_hopOf_snd p1 p2 p3 y x) ?_)
    refine mS_steps (pc' := 29) (ls' := [.ref 279, .int p1, .int p2, .int p3, .int p4, .int q1, mU]) (st' := [.int q1, .int p2, .ref 279]) (mem' := (mk x y)) 4 rfl ?_
    refine mS_bind (fun q2 hq2 => mS_call 107 3 [.ref 279, .int p2, .int q1] [] rfl rfl rfl ⟨_, _, _, rfl, rfl⟩ (Nat.le_of_ble_eq_true rfl) (Nat.le_of_ble_eq_true rfl) hq2 (f_X11_between_snd p2 q1 y x) ?_)
    refine mS_steps (pc' := 39) (ls' := [.ref 279, .int p1, .int p2, .int p3, .int p4, .int q1, .int q2]) (st' := [.int (1 : Int32), .ref 289]) (mem' := (mk x y)) 4 rfl ?_
    refine mS_aldc (b := 0) (n := 72) (c := 1) (z := (y.1 289 1)) rfl (by decide) rfl (by decide) (by decide) (by decide) rfl ?_
    refine mS_steps (pc' := 47) (ls' := [.ref 279, .int p1, .int p2, .int p3, .int p4, .int q1, .int q2]) (st' := [.int q2, .int ((y.1 289 1) &&& (p4 ^^^ (-1 : Int32)))]) (mem' := (mk x y)) 5 rfl ?_
    refine mS_call (q := (f_X11_has ((y.1 289 1) &&& (p4 ^^^ (-1 : Int32))) q2)) 87 2 [.int ((y.1 289 1) &&& (p4 ^^^ (-1 : Int32))), .int q2] [] rfl rfl rfl ⟨_, _, _, rfl, rfl⟩ (Nat.le_of_ble_eq_true rfl) (Nat.le_of_ble_eq_true rfl) rfl (f_X11_has_snd ((y.1 289 1) &&& (p4 ^^^ (-1 : Int32))) q2 (mk x y)) ?_
    refine mS_steps (pc' := 50) (ls' := [.ref 279, .int p1, .int p2, .int p3, .int p4, .int q1, .int q2]) (st' := [.int (f_X11_has ((y.1 289 1) &&& (p4 ^^^ (-1 : Int32))) q2)]) (mem' := (mk x y)) 0 rfl ?_
    refine mS_if0 rfl (fun _ => ?_) (fun _ => ?_)
    · refine mS_steps (pc' := 68) (ls' := [.ref 279, .int p1, .int p2, .int p3, .int p4, .int q1, .int q2]) (st' := [.int (-1 : Int32)]) (mem' := (mk x y)) 1 rfl ?_
      exact mS_reti ⟨_, _, _, _, _, rfl, rfl⟩ rfl
    · refine mS_steps (pc' := 56) (ls' := [.ref 279, .int p1, .int p2, .int p3, .int p4, .int q1, .int q2]) (st' := [.int q1, .ref 279]) (mem' := (mk x y)) 2 rfl ?_
      refine mS_bind (fun q3 hq3 => mS_call 88 2 [.ref 279, .int q1] [] rfl rfl rfl ⟨_, _, _, rfl, rfl⟩ (Nat.le_of_ble_eq_true rfl) (Nat.le_of_ble_eq_true rfl) hq3 (f_X11_isOn_snd q1 y x) ?_)
      refine mS_steps (pc' := 59) (ls' := [.ref 279, .int p1, .int p2, .int p3, .int p4, .int q1, .int q2]) (st' := [.int q3]) (mem' := (mk x y)) 0 rfl ?_
      refine mS_if0 rfl (fun _ => ?_) (fun _ => ?_)
      · refine mS_steps (pc' := 68) (ls' := [.ref 279, .int p1, .int p2, .int p3, .int p4, .int q1, .int q2]) (st' := [.int (-1 : Int32)]) (mem' := (mk x y)) 1 rfl ?_
        exact mS_reti ⟨_, _, _, _, _, rfl, rfl⟩ rfl
      · refine mS_steps (pc' := 68) (ls' := [.ref 279, .int p1, .int p2, .int p3, .int p4, .int q1, .int q2]) (st' := [.int q2]) (mem' := (mk x y)) 2 rfl ?_
        exact mS_reti ⟨_, _, _, _, _, rfl, rfl⟩ rfl
def f_X11_goes_L21 (a2 : Int32) (a3 : Int32) : Nat → Int32 → Int32 → mY → Option (Int32 × mY)
  | 0, _, _, _ => none
  | n + 1, a4, a5, y => (if a4 = a2 then (m_let (m_ys y 279 56 a2) fun y4 => (some ((1 : Int32), y4))) else ((f_X11_linkOfHop a2 a4 a5 a3 y).bind fun q5 => (m_jn (fun (z : Int32 × Int32 × mY) => match z with | (v7, v8, y9) => (if 0 ≤ v8 then (if m_in (y9.1 279 54) 32 = true then (m_let (m_ys y9 309 (y9.1 279 54).toNatClampNeg v8) fun y10 => (m_let (m_ys y10 279 54 ((y10.1 279 54) + (1 : Int32))) fun y11 => (if m_in ((8 : Int32) + v8) 72 = true then (if (y11.1 289 ((8 : Int32) + v8).toNatClampNeg) = a4 then (if m_in ((24 : Int32) + v8) 72 = true then (f_X11_goes_L21 a2 a3 n (y11.1 289 ((24 : Int32) + v8).toNatClampNeg) v7 y11) else none) else (if m_in ((8 : Int32) + v8) 72 = true then (f_X11_goes_L21 a2 a3 n (y11.1 289 ((8 : Int32) + v8).toNatClampNeg) v7 y11) else none)) else none))) else none) else (m_let (m_ys y9 279 56 a4) fun y12 => (some ((0 : Int32), y12))))) (fun j6 => if 0 ≤ q5 then (j6 (a5, q5, y)) else (if a5 = 0 then (m_let (m_ys y 279 55 a4) fun y13 => ((f_X11_linkOfHop a2 a4 (1 : Int32) a3 y13).bind fun q14 => (j6 ((1 : Int32), q14, y13)))) else (j6 (a5, q5, y)))))))
def f_X11_goes (p1 : Int32) (p2 : Int32) (p3 : Int32) (y : mY) : Option (Int32 × mY) := ((f_X11_knows y).bind fun q1 => (m_let (m_ys q1 279 54 (0 : Int32)) fun y2 => (m_let (m_ys y2 279 55 (-2 : Int32)) fun y3 => (f_X11_goes_L21 p2 p3 mF p1 (0 : Int32) y3))))
set_option maxRecDepth 20000 in
set_option maxHeartbeats 2000000 in
theorem f_X11_goes_L21_snd {fm : Value} {L : Nat} {xs : Nat → Int32} (a2 : Int32) (a3 : Int32) (x : mX) : ∀ (n : Nat) (a4 : Int32) (a5 : Int32) (y : mY), mS fm L xs (fun r : (Int32 × mY) => (.int r.1, mk x r.2)) pg_X11_goes 21 [.ref 279, mU, .int a2, .int a3, .int a4, .int a5, mU] [] (mk x y) (f_X11_goes_L21 a2 a3 n a4 a5 y) := by
  intro n
  induction n with
  | zero => intro a4 a5 y; exact mS_none
  | succ n ih =>
    intro a4 a5 y
    rw [f_X11_goes_L21]
    refine mS_steps (pc' := 24) (ls' := [.ref 279, mU, .int a2, .int a3, .int a4, .int a5, mU]) (st' := [.int a2, .int a4]) (mem' := (mk x y)) 2 rfl ?_
    refine mS_ic0 rfl (fun _ => ?_) (fun _ => ?_)
    · refine mS_steps (pc' := 149) (ls' := [.ref 279, mU, .int a2, .int a3, .int a4, .int a5, mU]) (st' := [.int a2, .ref 279]) (mem' := (mk x y)) 2 rfl ?_
      refine mS_puty rfl rfl (by decide) rfl ?_
      refine mS_lety (fun y4 => ?_)
      refine mS_steps (pc' := 153) (ls' := [.ref 279, mU, .int a2, .int a3, .int a4, .int a5, mU]) (st' := [.int (1 : Int32)]) (mem' := (mk x y4)) 1 rfl ?_
      exact mS_reti ⟨_, _, _, _, _, rfl, (by decide)⟩ rfl
    · refine mS_steps (pc' := 34) (ls' := [.ref 279, mU, .int a2, .int a3, .int a4, .int a5, mU]) (st' := [.int a3, .int a5, .int a4, .int a2, .ref 279]) (mem' := (mk x y)) 5 rfl ?_
      refine mS_bind (fun q5 hq5 => mS_call 158 5 [.ref 279, .int a2, .int a4, .int a5, .int a3] [] rfl rfl rfl ⟨_, _, _, rfl, rfl⟩ (Nat.le_of_ble_eq_true rfl) (Nat.le_of_ble_eq_true rfl) hq5 (f_X11_linkOfHop_snd a2 a4 a5 a3 y x) ?_)
      refine mS_steps (pc' := 41) (ls' := [.ref 279, mU, .int a2, .int a3, .int a4, .int a5, .int q5]) (st' := [.int q5]) (mem' := (mk x y)) 2 rfl ?_
      refine mS_jn (fun j => ∀ z : Int32 × Int32 × mY, mS fm L xs (fun r : (Int32 × mY) => (.int r.1, mk x r.2)) pg_X11_goes 70 [.ref 279, mU, .int a2, .int a3, .int a4, .int z.1, .int z.2.1] [] (mk x z.2.2) (j z)) ?_ ?_
      · intro z
        obtain ⟨v7, v8, y9⟩ := z
        refine mS_steps (pc' := 72) (ls' := [.ref 279, mU, .int a2, .int a3, .int a4, .int v7, .int v8]) (st' := [.int v8]) (mem' := (mk x y9)) 1 rfl ?_
        refine mS_if3 rfl (fun _ => ?_) (fun _ => ?_)
        · refine mS_steps (pc' := 93) (ls' := [.ref 279, mU, .int a2, .int a3, .int a4, .int v7, .int v8]) (st' := [.int v8, .int (y9.1 279 54), .ref 309]) (mem' := (mk x y9)) 5 rfl ?_
          refine mS_ast0y (n := 32) rfl rfl (by decide) (fun _ => ?_)
          refine mS_lety (fun y10 => ?_)
          refine mS_steps (pc' := 101) (ls' := [.ref 279, mU, .int a2, .int a3, .int a4, .int v7, .int v8]) (st' := [.int ((y10.1 279 54) + (1 : Int32)), .ref 279]) (mem' := (mk x y10)) 5 rfl ?_
          refine mS_puty rfl rfl (by decide) rfl ?_
          refine mS_lety (fun y11 => ?_)
          refine mS_steps (pc' := 113) (ls' := [.ref 279, mU, .int a2, .int a3, .int a4, .int v7, .int v8]) (st' := [.int ((8 : Int32) + v8), .ref 289]) (mem' := (mk x y11)) 5 rfl ?_
          refine mS_ald (b := 0) (n := 72) (z := (y11.1 289 ((8 : Int32) + v8).toNatClampNeg)) rfl (by decide) rfl (by decide) rfl (fun _ => ?_)
          refine mS_steps (pc' := 116) (ls' := [.ref 279, mU, .int a2, .int a3, .int a4, .int v7, .int v8]) (st' := [.int a4, .int (y11.1 289 ((8 : Int32) + v8).toNatClampNeg)]) (mem' := (mk x y11)) 1 rfl ?_
          refine mS_ic1 rfl (fun _ => ?_) (fun _ => ?_)
          · refine mS_steps (pc' := 128) (ls' := [.ref 279, mU, .int a2, .int a3, .int a4, .int v7, .int v8]) (st' := [.int ((24 : Int32) + v8), .ref 289]) (mem' := (mk x y11)) 5 rfl ?_
            refine mS_ald (b := 0) (n := 72) (z := (y11.1 289 ((24 : Int32) + v8).toNatClampNeg)) rfl (by decide) rfl (by decide) rfl (fun _ => ?_)
            refine mS_steps (pc' := 21) (ls' := [.ref 279, mU, .int a2, .int a3, .int (y11.1 289 ((24 : Int32) + v8).toNatClampNeg), .int v7, .int v8]) (st' := []) (mem' := (mk x y11)) 3 rfl ?_
            refine mS_forget [.ref 279, mU, .int a2, .int a3, .int (y11.1 289 ((24 : Int32) + v8).toNatClampNeg), .int v7, mU] ⟨Or.inr rfl, Or.inl rfl, Or.inr rfl, Or.inr rfl, Or.inr rfl, Or.inr rfl, Or.inl rfl, trivial⟩ ?_
            exact ih (y11.1 289 ((24 : Int32) + v8).toNatClampNeg) v7 y11
          · refine mS_steps (pc' := 141) (ls' := [.ref 279, mU, .int a2, .int a3, .int a4, .int v7, .int v8]) (st' := [.int ((8 : Int32) + v8), .ref 289]) (mem' := (mk x y11)) 5 rfl ?_
            refine mS_ald (b := 0) (n := 72) (z := (y11.1 289 ((8 : Int32) + v8).toNatClampNeg)) rfl (by decide) rfl (by decide) rfl (fun _ => ?_)
            refine mS_steps (pc' := 21) (ls' := [.ref 279, mU, .int a2, .int a3, .int (y11.1 289 ((8 : Int32) + v8).toNatClampNeg), .int v7, .int v8]) (st' := []) (mem' := (mk x y11)) 2 rfl ?_
            refine mS_forget [.ref 279, mU, .int a2, .int a3, .int (y11.1 289 ((8 : Int32) + v8).toNatClampNeg), .int v7, mU] ⟨Or.inr rfl, Or.inl rfl, Or.inr rfl, Or.inr rfl, Or.inr rfl, Or.inr rfl, Or.inl rfl, trivial⟩ ?_
            exact ih (y11.1 289 ((8 : Int32) + v8).toNatClampNeg) v7 y11
        · refine mS_steps (pc' := 78) (ls' := [.ref 279, mU, .int a2, .int a3, .int a4, .int v7, .int v8]) (st' := [.int a4, .ref 279]) (mem' := (mk x y9)) 2 rfl ?_
          refine mS_puty rfl rfl (by decide) rfl ?_
          refine mS_lety (fun y12 => ?_)
          refine mS_steps (pc' := 82) (ls' := [.ref 279, mU, .int a2, .int a3, .int a4, .int v7, .int v8]) (st' := [.int (0 : Int32)]) (mem' := (mk x y12)) 1 rfl ?_
          exact mS_reti ⟨_, _, _, _, _, rfl, (by decide)⟩ rfl
      intro j6 hj6
      refine mS_if3 rfl (fun _ => ?_) (fun _ => ?_)
      · exact hj6 (a5, q5, y)
      · refine mS_steps (pc' := 46) (ls' := [.ref 279, mU, .int a2, .int a3, .int a4, .int a5, .int q5]) (st' := [.int a5]) (mem' := (mk x y)) 1 rfl ?_
        refine mS_if1 rfl (fun _ => ?_) (fun _ => ?_)
        · refine mS_steps (pc' := 55) (ls' := [.ref 279, mU, .int a2, .int a3, .int a4, .int (1 : Int32), .int q5]) (st' := [.int a4, .ref 279]) (mem' := (mk x y)) 4 rfl ?_
          refine mS_puty rfl rfl (by decide) rfl ?_
          refine mS_lety (fun y13 => ?_)
          refine mS_steps (pc' := 65) (ls' := [.ref 279, mU, .int a2, .int a3, .int a4, .int (1 : Int32), .int q5]) (st' := [.int a3, .int (1 : Int32), .int a4, .int a2, .ref 279]) (mem' := (mk x y13)) 5 rfl ?_
          refine mS_bind (fun q14 hq14 => mS_call 158 5 [.ref 279, .int a2, .int a4, .int (1 : Int32), .int a3] [] rfl rfl rfl ⟨_, _, _, rfl, rfl⟩ (Nat.le_of_ble_eq_true rfl) (Nat.le_of_ble_eq_true rfl) hq14 (f_X11_linkOfHop_snd a2 a4 (1 : Int32) a3 y13 x) ?_)
          refine mS_steps (pc' := 70) (ls' := [.ref 279, mU, .int a2, .int a3, .int a4, .int (1 : Int32), .int q14]) (st' := []) (mem' := (mk x y13)) 1 rfl ?_
          exact hj6 ((1 : Int32), q14, y13)
        · exact hj6 (a5, q5, y)
set_option maxRecDepth 20000 in
set_option maxHeartbeats 2000000 in
theorem f_X11_goes_snd {fm : Value} {L : Nat} {xs : Nat → Int32} (p1 : Int32) (p2 : Int32) (p3 : Int32) (y : mY) (x : mX) : mS fm L xs (fun r : (Int32 × mY) => (.int r.1, mk x r.2)) pg_X11_goes 0 (m_entry [.ref 279, .int p1, .int p2, .int p3] 7) [] (mk x y) ((f_X11_goes p1 p2 p3 y)) := by
  unfold f_X11_goes
  refine mS_steps (pc' := 0) (ls' := [.ref 279, .int p1, .int p2, .int p3, mU, mU, mU]) (st' := []) (mem' := (mk x y)) 0 rfl ?_
  refine mS_steps (pc' := 1) (ls' := [.ref 279, .int p1, .int p2, .int p3, mU, mU, mU]) (st' := [.ref 279]) (mem' := (mk x y)) 1 rfl ?_
  refine mS_bind (fun q1 hq1 => mS_call 156 1 [.ref 279] [] rfl rfl rfl ⟨_, _, _, rfl, rfl⟩ (Nat.le_of_ble_eq_true rfl) (Nat.le_of_ble_eq_true rfl) hq1 (f_X11_knows_snd  y x) ?_)
  refine mS_steps (pc' := 12) (ls' := [.ref 279, .int p1, .int p2, .int p3, .int p1, .int (0 : Int32), mU]) (st' := [.int (0 : Int32), .ref 279]) (mem' := (mk x q1)) 6 rfl ?_
  refine mS_puty rfl rfl (by decide) rfl ?_
  refine mS_lety (fun y2 => ?_)
  refine mS_steps (pc' := 18) (ls' := [.ref 279, .int p1, .int p2, .int p3, .int p1, .int (0 : Int32), mU]) (st' := [.int (-2 : Int32), .ref 279]) (mem' := (mk x y2)) 2 rfl ?_
  refine mS_puty rfl rfl (by decide) rfl ?_
  refine mS_lety (fun y3 => ?_)
  refine mS_forget [.ref 279, mU, .int p2, .int p3, .int p1, .int (0 : Int32), mU] ⟨Or.inr rfl, Or.inl rfl, Or.inr rfl, Or.inr rfl, Or.inr rfl, Or.inr rfl, Or.inl rfl, trivial⟩ ?_
  refine f_X11_goes_L21_snd p2 p3 x mF p1 (0 : Int32) y3
def f_X11_send_L65 (a3 : Int32) : Nat → Int32 → mY → Option (Int32 × mY)
  | 0, _, _ => none
  | n + 1, a4, y => (if (y.1 279 54) ≤ a4 then (if a3 = 0 then (some ((0 : Int32), y)) else (some ((1 : Int32), y))) else (if m_in a4 32 = true then (if m_in ((56 : Int32) + (y.1 309 a4.toNatClampNeg)) 72 = true then (if m_in ((56 : Int32) + (y.1 309 a4.toNatClampNeg)) 72 = true then (m_let (m_ys y 289 ((56 : Int32) + (y.1 309 a4.toNatClampNeg)).toNatClampNeg ((y.1 289 ((56 : Int32) + (y.1 309 a4.toNatClampNeg)).toNatClampNeg) + (1 : Int32))) fun y8 => (f_X11_send_L65 a3 n (a4 + (1 : Int32)) y8)) else none) else none) else none))
def f_X11_send (p1 : Int32) (p2 : Int32) (y : mY) : Option (Int32 × mY) := ((f_X11_canSend p1 p2 y).bind fun q1 => (if q1 = 0 then (some ((-1 : Int32), y)) else ((f_X11_marks y).bind fun q2 => ((f_X11_goes p1 p2 (0 : Int32) q2).bind fun q3 => (m_let (m_ys q3.2 289 5 ((q3.2.1 289 5) + (1 : Int32))) fun y4 => (m_jn (fun y6 => (m_let (m_ys y6 289 7 ((y6.1 289 7) + (y6.1 279 54))) fun y7 => (f_X11_send_L65 q3.1 mF (0 : Int32) y7))) (fun j5 => if q3.1 = 0 then (j5 y4) else (m_let (m_ys y4 289 6 ((y4.1 289 6) + (1 : Int32))) fun y9 => (j5 y9)))))))))
set_option maxRecDepth 20000 in
set_option maxHeartbeats 2000000 in
theorem f_X11_send_L65_snd {fm : Value} {L : Nat} {xs : Nat → Int32} (a3 : Int32) (x : mX) : ∀ (n : Nat) (a4 : Int32) (y : mY), mS fm L xs (fun r : (Int32 × mY) => (.int r.1, mk x r.2)) pg_X11_send 65 [.ref 279, mU, mU, .int a3, .int a4] [] (mk x y) (f_X11_send_L65 a3 n a4 y) := by
  intro n
  induction n with
  | zero => intro a4 y; exact mS_none
  | succ n ih =>
    intro a4 y
    rw [f_X11_send_L65]
    refine mS_steps (pc' := 71) (ls' := [.ref 279, mU, mU, .int a3, .int a4]) (st' := [.int (y.1 279 54), .int a4]) (mem' := (mk x y)) 3 rfl ?_
    refine mS_ic3 rfl (fun _ => ?_) (fun _ => ?_)
    · refine mS_steps (pc' := 100) (ls' := [.ref 279, mU, mU, .int a3, .int a4]) (st' := [.int a3]) (mem' := (mk x y)) 1 rfl ?_
      refine mS_if0 rfl (fun _ => ?_) (fun _ => ?_)
      · refine mS_steps (pc' := 108) (ls' := [.ref 279, mU, mU, .int a3, .int a4]) (st' := [.int (0 : Int32)]) (mem' := (mk x y)) 1 rfl ?_
        exact mS_reti ⟨_, _, _, _, _, rfl, rfl⟩ rfl
      · refine mS_steps (pc' := 108) (ls' := [.ref 279, mU, mU, .int a3, .int a4]) (st' := [.int (1 : Int32)]) (mem' := (mk x y)) 2 rfl ?_
        exact mS_reti ⟨_, _, _, _, _, rfl, rfl⟩ rfl
    · refine mS_steps (pc' := 86) (ls' := [.ref 279, mU, mU, .int a3, .int a4]) (st' := [.int a4, .ref 309, .int (56 : Int32), .ref 289]) (mem' := (mk x y)) 6 rfl ?_
      refine mS_ald (b := 0) (n := 32) (z := (y.1 309 a4.toNatClampNeg)) rfl (by decide) rfl (by decide) rfl (fun _ => ?_)
      refine mS_steps (pc' := 89) (ls' := [.ref 279, mU, mU, .int a3, .int a4]) (st' := [.int ((56 : Int32) + (y.1 309 a4.toNatClampNeg)), .ref 289, .int ((56 : Int32) + (y.1 309 a4.toNatClampNeg)), .ref 289]) (mem' := (mk x y)) 2 rfl ?_
      refine mS_ald (b := 0) (n := 72) (z := (y.1 289 ((56 : Int32) + (y.1 309 a4.toNatClampNeg)).toNatClampNeg)) rfl (by decide) rfl (by decide) rfl (fun _ => ?_)
      refine mS_steps (pc' := 92) (ls' := [.ref 279, mU, mU, .int a3, .int a4]) (st' := [.int ((y.1 289 ((56 : Int32) + (y.1 309 a4.toNatClampNeg)).toNatClampNeg) + (1 : Int32)), .int ((56 : Int32) + (y.1 309 a4.toNatClampNeg)), .ref 289]) (mem' := (mk x y)) 2 rfl ?_
      refine mS_ast0y (n := 72) rfl rfl (by decide) (fun _ => ?_)
      refine mS_lety (fun y8 => ?_)
      refine mS_steps (pc' := 65) (ls' := [.ref 279, mU, mU, .int a3, .int (a4 + (1 : Int32))]) (st' := []) (mem' := (mk x y8)) 2 rfl ?_
      exact ih (a4 + (1 : Int32)) y8
set_option maxRecDepth 20000 in
set_option maxHeartbeats 2000000 in
theorem f_X11_send_snd {fm : Value} {L : Nat} {xs : Nat → Int32} (p1 : Int32) (p2 : Int32) (y : mY) (x : mX) : mS fm L xs (fun r : (Int32 × mY) => (.int r.1, mk x r.2)) pg_X11_send 0 (m_entry [.ref 279, .int p1, .int p2] 5) [] (mk x y) ((f_X11_send p1 p2 y)) := by
  unfold f_X11_send
  refine mS_steps (pc' := 0) (ls' := [.ref 279, .int p1, .int p2, mU, mU]) (st' := []) (mem' := (mk x y)) 0 rfl ?_
  refine mS_steps (pc' := 3) (ls' := [.ref 279, .int p1, .int p2, mU, mU]) (st' := [.int p2, .int p1, .ref 279]) (mem' := (mk x y)) 3 rfl ?_
  refine mS_bind (fun q1 hq1 => mS_call 141 3 [.ref 279, .int p1, .int p2] [] rfl rfl rfl ⟨_, _, _, rfl, rfl⟩ (Nat.le_of_ble_eq_true rfl) (Nat.le_of_ble_eq_true rfl) hq1 (f_X11_canSend_snd p1 p2 y x) ?_)
  refine mS_steps (pc' := 6) (ls' := [.ref 279, .int p1, .int p2, mU, mU]) (st' := [.int q1]) (mem' := (mk x y)) 0 rfl ?_
  refine mS_if1 rfl (fun _ => ?_) (fun _ => ?_)
  · refine mS_steps (pc' := 10) (ls' := [.ref 279, .int p1, .int p2, mU, mU]) (st' := [.int (-1 : Int32)]) (mem' := (mk x y)) 1 rfl ?_
    exact mS_reti ⟨_, _, _, _, _, rfl, rfl⟩ rfl
  · refine mS_steps (pc' := 12) (ls' := [.ref 279, .int p1, .int p2, mU, mU]) (st' := [.ref 279]) (mem' := (mk x y)) 1 rfl ?_
    refine mS_bind (fun q2 hq2 => mS_call 98 1 [.ref 279] [] rfl rfl rfl ⟨_, _, _, rfl, rfl⟩ (Nat.le_of_ble_eq_true rfl) (Nat.le_of_ble_eq_true rfl) hq2 (f_X11_marks_snd  y x) ?_)
    refine mS_steps (pc' := 19) (ls' := [.ref 279, .int p1, .int p2, mU, mU]) (st' := [.int (0 : Int32), .int p2, .int p1, .ref 279]) (mem' := (mk x q2)) 4 rfl ?_
    refine mS_bind (fun q3 hq3 => mS_call 159 4 [.ref 279, .int p1, .int p2, .int (0 : Int32)] [] rfl rfl rfl ⟨_, _, _, rfl, rfl⟩ (Nat.le_of_ble_eq_true rfl) (Nat.le_of_ble_eq_true rfl) hq3 (f_X11_goes_snd p1 p2 (0 : Int32) q2 x) ?_)
    refine mS_steps (pc' := 29) (ls' := [.ref 279, .int p1, .int p2, .int q3.1, mU]) (st' := [.int (5 : Int32), .ref 289, .int (5 : Int32), .ref 289]) (mem' := (mk x q3.2)) 5 rfl ?_
    refine mS_aldc (b := 0) (n := 72) (c := 5) (z := (q3.2.1 289 5)) rfl (by decide) rfl (by decide) (by decide) (by decide) rfl ?_
    refine mS_steps (pc' := 32) (ls' := [.ref 279, .int p1, .int p2, .int q3.1, mU]) (st' := [.int ((q3.2.1 289 5) + (1 : Int32)), .int (5 : Int32), .ref 289]) (mem' := (mk x q3.2)) 2 rfl ?_
    refine mS_ast0yc (n := 72) (c := 5) rfl rfl (by decide) (by decide) (by decide) ?_
    refine mS_lety (fun y4 => ?_)
    refine mS_steps (pc' := 34) (ls' := [.ref 279, .int p1, .int p2, .int q3.1, mU]) (st' := [.int q3.1]) (mem' := (mk x y4)) 1 rfl ?_
    refine mS_jn (fun j => ∀ z : mY, mS fm L xs (fun r : (Int32 × mY) => (.int r.1, mk x r.2)) pg_X11_send 48 [.ref 279, mU, mU, .int q3.1, mU] [] (mk x z) (j z)) ?_ ?_
    · intro z
      revert z; intro y6
      refine mS_steps (pc' := 55) (ls' := [.ref 279, mU, mU, .int q3.1, mU]) (st' := [.int (7 : Int32), .ref 289, .int (7 : Int32), .ref 289]) (mem' := (mk x y6)) 4 rfl ?_
      refine mS_aldc (b := 0) (n := 72) (c := 7) (z := (y6.1 289 7)) rfl (by decide) rfl (by decide) (by decide) (by decide) rfl ?_
      refine mS_steps (pc' := 61) (ls' := [.ref 279, mU, mU, .int q3.1, mU]) (st' := [.int ((y6.1 289 7) + (y6.1 279 54)), .int (7 : Int32), .ref 289]) (mem' := (mk x y6)) 3 rfl ?_
      refine mS_ast0yc (n := 72) (c := 7) rfl rfl (by decide) (by decide) (by decide) ?_
      refine mS_lety (fun y7 => ?_)
      refine mS_steps (pc' := 65) (ls' := [.ref 279, mU, mU, .int q3.1, .int (0 : Int32)]) (st' := []) (mem' := (mk x y7)) 2 rfl ?_
      refine f_X11_send_L65_snd q3.1 x mF (0 : Int32) y7
    intro j5 hj5
    refine mS_if0 rfl (fun _ => ?_) (fun _ => ?_)
    · refine mS_forget [.ref 279, mU, mU, .int q3.1, mU] ⟨Or.inr rfl, Or.inl rfl, Or.inl rfl, Or.inr rfl, Or.inl rfl, trivial⟩ ?_
      exact hj5 y4
    · refine mS_steps (pc' := 44) (ls' := [.ref 279, .int p1, .int p2, .int q3.1, mU]) (st' := [.int (6 : Int32), .ref 289, .int (6 : Int32), .ref 289]) (mem' := (mk x y4)) 4 rfl ?_
      refine mS_aldc (b := 0) (n := 72) (c := 6) (z := (y4.1 289 6)) rfl (by decide) rfl (by decide) (by decide) (by decide) rfl ?_
      refine mS_steps (pc' := 47) (ls' := [.ref 279, .int p1, .int p2, .int q3.1, mU]) (st' := [.int ((y4.1 289 6) + (1 : Int32)), .int (6 : Int32), .ref 289]) (mem' := (mk x y4)) 2 rfl ?_
      refine mS_ast0yc (n := 72) (c := 6) rfl rfl (by decide) (by decide) (by decide) ?_
      refine mS_lety (fun y9 => ?_)
      refine mS_forget [.ref 279, mU, mU, .int q3.1, mU] ⟨Or.inr rfl, Or.inl rfl, Or.inl rfl, Or.inr rfl, Or.inl rfl, trivial⟩ ?_
      exact hj5 y9
def f_X2_bring (x : mX) : Option (Int32 × mX) := (if (x.1 19 0) = 0 then (some ((0 : Int32), x)) else (m_jn (fun w2 => (m_let (m_xs x 19 1 w2) fun x3 => (m_let (m_xs x3 19 0 ((x3.1 19 0) - (1 : Int32))) fun x4 => (if m_in (x4.1 19 1) 40 = true then ((mRR x4.2.2 20 (x4.1 19 1).toNatClampNeg).bind fun q5 => ((f_X6_copy 14 q5 x4).bind fun q6 => (some ((1 : Int32), q6)))) else none)))) (fun j1 => if (x.1 19 1) ≤ 0 then (j1 (39 : Int32)) else (j1 ((x.1 19 1) - (1 : Int32))))))
set_option maxRecDepth 20000 in
set_option maxHeartbeats 2000000 in
theorem f_X2_bring_snd {fm : Value} {L : Nat} {xs : Nat → Int32} (x : mX) (y : mY) : mS fm L xs (fun r : (Int32 × mX) => (.int r.1, mk r.2 y)) pg_X2_bring 0 (m_entry [.ref 19, .ref 14] 2) [] (mk x y) ((f_X2_bring x)) := by
  unfold f_X2_bring
  refine mS_steps (pc' := 0) (ls' := [.ref 19, .ref 14]) (st' := []) (mem' := (mk x y)) 0 rfl ?_
  refine mS_steps (pc' := 4) (ls' := [.ref 19, .ref 14]) (st' := [.int (x.1 19 0)]) (mem' := (mk x y)) 2 rfl ?_
  refine mS_if1 rfl (fun _ => ?_) (fun _ => ?_)
  · refine mS_steps (pc' := 8) (ls' := [.ref 19, .ref 14]) (st' := [.int (0 : Int32)]) (mem' := (mk x y)) 1 rfl ?_
    exact mS_reti ⟨_, _, _, _, _, rfl, (by decide)⟩ rfl
  · refine mS_steps (pc' := 14) (ls' := [.ref 19, .ref 14]) (st' := [.int (x.1 19 1), .ref 19]) (mem' := (mk x y)) 3 rfl ?_
    refine mS_jn (fun j => ∀ z : Int32, mS fm L xs (fun r : (Int32 × mX) => (.int r.1, mk r.2 y)) pg_X2_bring 28 [.ref 19, .ref 14] [.int z, .ref 19] (mk x y) (j z)) ?_ ?_
    · intro z
      revert z; intro w2
      refine mS_putx rfl rfl (by decide) rfl ?_
      refine mS_letx (fun x3 => ?_)
      refine mS_steps (pc' := 38) (ls' := [.ref 19, .ref 14]) (st' := [.int ((x3.1 19 0) - (1 : Int32)), .ref 19]) (mem' := (mk x3 y)) 5 rfl ?_
      refine mS_putx rfl rfl (by decide) rfl ?_
      refine mS_letx (fun x4 => ?_)
      refine mS_steps (pc' := 50) (ls' := [.ref 19, .ref 14]) (st' := [.int (x4.1 19 1), .ref 20, .ref 14]) (mem' := (mk x4 y)) 5 rfl ?_
      refine mS_aald (n := 40) rfl rfl (by decide) (fun hiq5 => mS_bind (fun q5 hq5 => mS_aald2 rfl rfl (by decide) hiq5 hq5 ?_))
      refine mS_bind (fun q6 hq6 => mS_call 64 2 [.ref 14, .ref q5] [] rfl rfl rfl ⟨_, _, _, rfl, rfl⟩ (Nat.le_of_ble_eq_true rfl) (Nat.le_of_ble_eq_true rfl) hq6 (f_X6_copy_snd 14 q5 (m_stq 14 (by decide)) (m_past hiq5 hq5) x4 y) ?_)
      refine mS_steps (pc' := 55) (ls' := [.ref 19, .ref 14]) (st' := [.int (1 : Int32)]) (mem' := (mk q6 y)) 1 rfl ?_
      exact mS_reti ⟨_, _, _, _, _, rfl, (by decide)⟩ rfl
    intro j1 hj1
    refine mS_if5 rfl (fun _ => ?_) (fun _ => ?_)
    · refine mS_steps (pc' := 28) (ls' := [.ref 19, .ref 14]) (st' := [.int (39 : Int32), .ref 19]) (mem' := (mk x y)) 1 rfl ?_
      exact hj1 (39 : Int32)
    · refine mS_steps (pc' := 28) (ls' := [.ref 19, .ref 14]) (st' := [.int ((x.1 19 1) - (1 : Int32)), .ref 19]) (mem' := (mk x y)) 5 rfl ?_
      exact hj1 ((x.1 19 1) - (1 : Int32))
def f_X10_undo (x : mX) : Option (Int32 × mX) := ((f_X2_bring x).bind fun q1 => (if q1.1 = 0 then (some ((0 : Int32), q1.2)) else (m_let (f_X10_allChanged q1.2) fun x2 => (some ((1 : Int32), x2)))))
set_option maxRecDepth 20000 in
set_option maxHeartbeats 2000000 in
theorem f_X10_undo_snd {fm : Value} {L : Nat} {xs : Nat → Int32} (x : mX) (y : mY) : mS fm L xs (fun r : (Int32 × mX) => (.int r.1, mk r.2 y)) pg_X10_undo 0 (m_entry [.ref 0] 1) [] (mk x y) ((f_X10_undo x)) := by
  unfold f_X10_undo
  refine mS_steps (pc' := 0) (ls' := [.ref 0]) (st' := []) (mem' := (mk x y)) 0 rfl ?_
  refine mS_steps (pc' := 8) (ls' := [.ref 0]) (st' := [.ref 14, .ref 19]) (mem' := (mk x y)) 4 rfl ?_
  refine mS_bind (fun q1 hq1 => mS_call 161 2 [.ref 19, .ref 14] [] rfl rfl rfl ⟨_, _, _, rfl, rfl⟩ (Nat.le_of_ble_eq_true rfl) (Nat.le_of_ble_eq_true rfl) hq1 (f_X2_bring_snd  x y) ?_)
  refine mS_steps (pc' := 11) (ls' := [.ref 0]) (st' := [.int q1.1]) (mem' := (mk q1.2 y)) 0 rfl ?_
  refine mS_if1 rfl (fun _ => ?_) (fun _ => ?_)
  · refine mS_steps (pc' := 15) (ls' := [.ref 0]) (st' := [.int (0 : Int32)]) (mem' := (mk q1.2 y)) 1 rfl ?_
    exact mS_reti ⟨_, _, _, _, _, rfl, (by decide)⟩ rfl
  · refine mS_steps (pc' := 17) (ls' := [.ref 0]) (st' := [.ref 0]) (mem' := (mk q1.2 y)) 1 rfl ?_
    refine mS_call (q := (f_X10_allChanged q1.2)) 66 1 [.ref 0] [] rfl rfl rfl ⟨_, _, _, rfl, rfl⟩ (Nat.le_of_ble_eq_true rfl) (Nat.le_of_ble_eq_true rfl) rfl (f_X10_allChanged_snd  q1.2 y) ?_
    refine mS_letx (fun x2 => ?_)
    refine mS_steps (pc' := 21) (ls' := [.ref 0]) (st' := [.int (1 : Int32)]) (mem' := (mk x2 y)) 1 rfl ?_
    exact mS_reti ⟨_, _, _, _, _, rfl, (by decide)⟩ rfl
def f_X11_undo_L37 (a1 : Int32) : Nat → Int32 → mY → Option (Int32 × mY)
  | 0, _, _ => none
  | n + 1, a2, y => (if (72 : Int32) ≤ a2 then (m_let (m_ys y 279 30 (0 : Int32)) fun y2 => (some ((1 : Int32), y2))) else (if m_in (a1 + a2) 2880 = true then (if m_in a2 72 = true then (m_let (m_ys y 289 a2.toNatClampNeg (y.1 290 (a1 + a2).toNatClampNeg)) fun y3 => (f_X11_undo_L37 a1 n (a2 + (1 : Int32)) y3)) else none) else none))
def f_X11_undo (y : mY) : Option (Int32 × mY) := (if (y.1 279 27) = 0 then (some ((0 : Int32), y)) else (m_let (m_ys y 279 27 ((y.1 279 27) - (1 : Int32))) fun y1 => (f_X11_undo_L37 ((72 : Int32) * (((y1.1 279 26) + (y1.1 279 27)) - ((y1.1 279 26) + (y1.1 279 27)) / (40 : Int32) * (40 : Int32))) mF (0 : Int32) y1)))
set_option maxRecDepth 20000 in
set_option maxHeartbeats 2000000 in
theorem f_X11_undo_L37_snd {fm : Value} {L : Nat} {xs : Nat → Int32} (a1 : Int32) (x : mX) : ∀ (n : Nat) (a2 : Int32) (y : mY), mS fm L xs (fun r : (Int32 × mY) => (.int r.1, mk x r.2)) pg_X11_undo 37 [.ref 279, .int a1, .int a2] [] (mk x y) (f_X11_undo_L37 a1 n a2 y) := by
  intro n
  induction n with
  | zero => intro a2 y; exact mS_none
  | succ n ih =>
    intro a2 y
    rw [f_X11_undo_L37]
    refine mS_steps (pc' := 40) (ls' := [.ref 279, .int a1, .int a2]) (st' := [.int (72 : Int32), .int a2]) (mem' := (mk x y)) 2 rfl ?_
    refine mS_ic3 rfl (fun _ => ?_) (fun _ => ?_)
    · refine mS_steps (pc' := 65) (ls' := [.ref 279, .int a1, .int a2]) (st' := [.int (0 : Int32), .ref 279]) (mem' := (mk x y)) 2 rfl ?_
      refine mS_putcy rfl rfl (by decide) rfl (by decide) ?_
      refine mS_lety (fun y2 => ?_)
      refine mS_steps (pc' := 69) (ls' := [.ref 279, .int a1, .int a2]) (st' := [.int (1 : Int32)]) (mem' := (mk x y2)) 1 rfl ?_
      exact mS_reti ⟨_, _, _, _, _, rfl, (by decide)⟩ rfl
    · refine mS_steps (pc' := 55) (ls' := [.ref 279, .int a1, .int a2]) (st' := [.int (a1 + a2), .ref 290, .int a2, .ref 289]) (mem' := (mk x y)) 8 rfl ?_
      refine mS_ald (b := 0) (n := 2880) (z := (y.1 290 (a1 + a2).toNatClampNeg)) rfl (by decide) rfl (by decide) rfl (fun _ => ?_)
      refine mS_ast0y (n := 72) rfl rfl (by decide) (fun _ => ?_)
      refine mS_lety (fun y3 => ?_)
      refine mS_steps (pc' := 37) (ls' := [.ref 279, .int a1, .int (a2 + (1 : Int32))]) (st' := []) (mem' := (mk x y3)) 2 rfl ?_
      exact ih (a2 + (1 : Int32)) y3
set_option maxRecDepth 20000 in
set_option maxHeartbeats 2000000 in
theorem f_X11_undo_snd {fm : Value} {L : Nat} {xs : Nat → Int32} (y : mY) (x : mX) : mS fm L xs (fun r : (Int32 × mY) => (.int r.1, mk x r.2)) pg_X11_undo 0 (m_entry [.ref 279] 3) [] (mk x y) ((f_X11_undo y)) := by
  unfold f_X11_undo
  refine mS_steps (pc' := 0) (ls' := [.ref 279, mU, mU]) (st' := []) (mem' := (mk x y)) 0 rfl ?_
  refine mS_steps (pc' := 4) (ls' := [.ref 279, mU, mU]) (st' := [.int (y.1 279 27)]) (mem' := (mk x y)) 2 rfl ?_
  refine mS_if1 rfl (fun _ => ?_) (fun _ => ?_)
  · refine mS_steps (pc' := 8) (ls' := [.ref 279, mU, mU]) (st' := [.int (0 : Int32)]) (mem' := (mk x y)) 1 rfl ?_
    exact mS_reti ⟨_, _, _, _, _, rfl, (by decide)⟩ rfl
  · refine mS_steps (pc' := 16) (ls' := [.ref 279, mU, mU]) (st' := [.int ((y.1 279 27) - (1 : Int32)), .ref 279]) (mem' := (mk x y)) 5 rfl ?_
    refine mS_puty rfl rfl (by decide) rfl ?_
    refine mS_lety (fun y1 => ?_)
    refine mS_steps (pc' := 32) (ls' := [.ref 279, mU, mU]) (st' := [.int (40 : Int32), .int ((y1.1 279 26) + (y1.1 279 27)), .int (72 : Int32)]) (mem' := (mk x y1)) 7 rfl ?_
    refine mS_rem rfl (by decide) ?_
    refine mS_steps (pc' := 37) (ls' := [.ref 279, .int ((72 : Int32) * (((y1.1 279 26) + (y1.1 279 27)) - ((y1.1 279 26) + (y1.1 279 27)) / (40 : Int32) * (40 : Int32))), .int (0 : Int32)]) (st' := []) (mem' := (mk x y1)) 4 rfl ?_
    refine f_X11_undo_L37_snd ((72 : Int32) * (((y1.1 279 26) + (y1.1 279 27)) - ((y1.1 279 26) + (y1.1 279 27)) / (40 : Int32) * (40 : Int32))) x mF (0 : Int32) y1
def f_X10_link (p1 : Int32) (p2 : Int32) (x : mX) : Option Int32 := (if (f_X10_isLink p1 x) = 0 then (some (-1 : Int32)) else (if p2 = (0 : Int32) then (if m_in p1 16 = true then (some (x.1 15 p1.toNatClampNeg)) else none) else (if p2 = (1 : Int32) then (if m_in p1 16 = true then (some (x.1 16 p1.toNatClampNeg)) else none) else (if p2 = (2 : Int32) then (if m_in p1 16 = true then (some (x.1 17 p1.toNatClampNeg)) else none) else (if p2 = (3 : Int32) then (if (f_X10_has (x.1 14 3) p1) = 0 then (some (0 : Int32)) else (some (1 : Int32))) else (if p2 = (4 : Int32) then (if m_in p1 16 = true then (some (x.1 18 p1.toNatClampNeg)) else none) else (if p2 = (5 : Int32) then (if (f_X10_has (x.1 14 6) p1) = 0 then (some (0 : Int32)) else (some (1 : Int32))) else (some (-1 : Int32)))))))))
set_option maxRecDepth 20000 in
set_option maxHeartbeats 2000000 in
theorem f_X10_link_snd {fm : Value} {L : Nat} {xs : Nat → Int32} (p1 : Int32) (p2 : Int32) (x : mX) (y : mY) : mS fm L xs (fun r : Int32 => (.int r, (mk x y))) pg_X10_link 0 (m_entry [.ref 0, .int p1, .int p2] 3) [] (mk x y) ((f_X10_link p1 p2 x)) := by
  unfold f_X10_link
  refine mS_steps (pc' := 0) (ls' := [.ref 0, .int p1, .int p2]) (st' := []) (mem' := (mk x y)) 0 rfl ?_
  refine mS_steps (pc' := 2) (ls' := [.ref 0, .int p1, .int p2]) (st' := [.int p1, .ref 0]) (mem' := (mk x y)) 2 rfl ?_
  refine mS_call (q := (f_X10_isLink p1 x)) 94 2 [.ref 0, .int p1] [] rfl rfl rfl ⟨_, _, _, rfl, rfl⟩ (Nat.le_of_ble_eq_true rfl) (Nat.le_of_ble_eq_true rfl) rfl (f_X10_isLink_snd p1 x y) ?_
  refine mS_steps (pc' := 5) (ls' := [.ref 0, .int p1, .int p2]) (st' := [.int (f_X10_isLink p1 x)]) (mem' := (mk x y)) 0 rfl ?_
  refine mS_if1 rfl (fun _ => ?_) (fun _ => ?_)
  · refine mS_steps (pc' := 9) (ls' := [.ref 0, .int p1, .int p2]) (st' := [.int (-1 : Int32)]) (mem' := (mk x y)) 1 rfl ?_
    exact mS_reti ⟨_, _, _, _, _, rfl, rfl⟩ rfl
  · refine mS_steps (pc' := 11) (ls' := [.ref 0, .int p1, .int p2]) (st' := [.int p2]) (mem' := (mk x y)) 1 rfl ?_
    refine mS_ite (fun hc => ?_) (fun hn1 => ?_)
    · refine mS_tsw (i := 0) (t := 48) rfl (by rw [hc]; decide) rfl ?_
      refine mS_steps (pc' := 56) (ls' := [.ref 0, .int p1, .int p2]) (st' := [.int p1, .ref 15]) (mem' := (mk x y)) 4 rfl ?_
      refine mS_ald (b := 0) (n := 16) (z := (x.1 15 p1.toNatClampNeg)) rfl (by decide) rfl (by decide) rfl (fun _ => ?_)
      exact mS_reti ⟨_, _, _, _, _, rfl, rfl⟩ rfl
    refine mS_ite (fun hc => ?_) (fun hn2 => ?_)
    · refine mS_tsw (i := 1) (t := 58) rfl (by rw [hc]; decide) rfl ?_
      refine mS_steps (pc' := 66) (ls' := [.ref 0, .int p1, .int p2]) (st' := [.int p1, .ref 16]) (mem' := (mk x y)) 4 rfl ?_
      refine mS_ald (b := 0) (n := 16) (z := (x.1 16 p1.toNatClampNeg)) rfl (by decide) rfl (by decide) rfl (fun _ => ?_)
      exact mS_reti ⟨_, _, _, _, _, rfl, rfl⟩ rfl
    refine mS_ite (fun hc => ?_) (fun hn3 => ?_)
    · refine mS_tsw (i := 2) (t := 68) rfl (by rw [hc]; decide) rfl ?_
      refine mS_steps (pc' := 76) (ls' := [.ref 0, .int p1, .int p2]) (st' := [.int p1, .ref 17]) (mem' := (mk x y)) 4 rfl ?_
      refine mS_ald (b := 0) (n := 16) (z := (x.1 17 p1.toNatClampNeg)) rfl (by decide) rfl (by decide) rfl (fun _ => ?_)
      exact mS_reti ⟨_, _, _, _, _, rfl, rfl⟩ rfl
    refine mS_ite (fun hc => ?_) (fun hn4 => ?_)
    · refine mS_tsw (i := 3) (t := 78) rfl (by rw [hc]; decide) rfl ?_
      refine mS_steps (pc' := 86) (ls' := [.ref 0, .int p1, .int p2]) (st' := [.int p1, .int (x.1 14 3)]) (mem' := (mk x y)) 4 rfl ?_
      refine mS_call (q := (f_X10_has (x.1 14 3) p1)) 57 2 [.int (x.1 14 3), .int p1] [] rfl rfl rfl ⟨_, _, _, rfl, rfl⟩ (Nat.le_of_ble_eq_true rfl) (Nat.le_of_ble_eq_true rfl) rfl (f_X10_has_snd (x.1 14 3) p1 (mk x y)) ?_
      refine mS_steps (pc' := 89) (ls' := [.ref 0, .int p1, .int p2]) (st' := [.int (f_X10_has (x.1 14 3) p1)]) (mem' := (mk x y)) 0 rfl ?_
      refine mS_if0 rfl (fun _ => ?_) (fun _ => ?_)
      · refine mS_steps (pc' := 97) (ls' := [.ref 0, .int p1, .int p2]) (st' := [.int (0 : Int32)]) (mem' := (mk x y)) 1 rfl ?_
        exact mS_reti ⟨_, _, _, _, _, rfl, rfl⟩ rfl
      · refine mS_steps (pc' := 97) (ls' := [.ref 0, .int p1, .int p2]) (st' := [.int (1 : Int32)]) (mem' := (mk x y)) 2 rfl ?_
        exact mS_reti ⟨_, _, _, _, _, rfl, rfl⟩ rfl
    refine mS_ite (fun hc => ?_) (fun hn5 => ?_)
    · refine mS_tsw (i := 4) (t := 98) rfl (by rw [hc]; decide) rfl ?_
      refine mS_steps (pc' := 106) (ls' := [.ref 0, .int p1, .int p2]) (st' := [.int p1, .ref 18]) (mem' := (mk x y)) 4 rfl ?_
      refine mS_ald (b := 0) (n := 16) (z := (x.1 18 p1.toNatClampNeg)) rfl (by decide) rfl (by decide) rfl (fun _ => ?_)
      exact mS_reti ⟨_, _, _, _, _, rfl, rfl⟩ rfl
    refine mS_ite (fun hc => ?_) (fun hn6 => ?_)
    · refine mS_tsw (i := 5) (t := 108) rfl (by rw [hc]; decide) rfl ?_
      refine mS_steps (pc' := 116) (ls' := [.ref 0, .int p1, .int p2]) (st' := [.int p1, .int (x.1 14 6)]) (mem' := (mk x y)) 4 rfl ?_
      refine mS_call (q := (f_X10_has (x.1 14 6) p1)) 57 2 [.int (x.1 14 6), .int p1] [] rfl rfl rfl ⟨_, _, _, rfl, rfl⟩ (Nat.le_of_ble_eq_true rfl) (Nat.le_of_ble_eq_true rfl) rfl (f_X10_has_snd (x.1 14 6) p1 (mk x y)) ?_
      refine mS_steps (pc' := 119) (ls' := [.ref 0, .int p1, .int p2]) (st' := [.int (f_X10_has (x.1 14 6) p1)]) (mem' := (mk x y)) 0 rfl ?_
      refine mS_if0 rfl (fun _ => ?_) (fun _ => ?_)
      · refine mS_steps (pc' := 127) (ls' := [.ref 0, .int p1, .int p2]) (st' := [.int (0 : Int32)]) (mem' := (mk x y)) 1 rfl ?_
        exact mS_reti ⟨_, _, _, _, _, rfl, rfl⟩ rfl
      · refine mS_steps (pc' := 127) (ls' := [.ref 0, .int p1, .int p2]) (st' := [.int (1 : Int32)]) (mem' := (mk x y)) 2 rfl ?_
        exact mS_reti ⟨_, _, _, _, _, rfl, rfl⟩ rfl
    refine mS_tswd rfl (fun i hi => ?_) ?_
    · match i, hi with
      | 0, _ => exact Or.inl (m_nlit hn1 (by decide))
      | 1, _ => exact Or.inl (m_nlit hn2 (by decide))
      | 2, _ => exact Or.inl (m_nlit hn3 (by decide))
      | 3, _ => exact Or.inl (m_nlit hn4 (by decide))
      | 4, _ => exact Or.inl (m_nlit hn5 (by decide))
      | 5, _ => exact Or.inl (m_nlit hn6 (by decide))
      | n + 6, hi => exact absurd hi (by simp)
    refine mS_steps (pc' := 129) (ls' := [.ref 0, .int p1, .int p2]) (st' := [.int (-1 : Int32)]) (mem' := (mk x y)) 1 rfl ?_
    exact mS_reti ⟨_, _, _, _, _, rfl, rfl⟩ rfl
def f_X11_link (p1 : Int32) (p2 : Int32) (y : mY) : Option Int32 := ((f_X11_isLink p1 y).bind fun q1 => (if q1 = 0 then (some (-1 : Int32)) else (if p2 = (0 : Int32) then (if m_in ((8 : Int32) + p1) 72 = true then (some (y.1 289 ((8 : Int32) + p1).toNatClampNeg)) else none) else (if p2 = (1 : Int32) then (if m_in ((24 : Int32) + p1) 72 = true then (some (y.1 289 ((24 : Int32) + p1).toNatClampNeg)) else none) else (if p2 = (2 : Int32) then (if m_in ((40 : Int32) + p1) 72 = true then (some (y.1 289 ((40 : Int32) + p1).toNatClampNeg)) else none) else (if p2 = (3 : Int32) then (if (f_X11_has (y.1 289 1) p1) = 0 then (some (0 : Int32)) else (some (1 : Int32))) else (if p2 = (4 : Int32) then (if m_in ((56 : Int32) + p1) 72 = true then (some (y.1 289 ((56 : Int32) + p1).toNatClampNeg)) else none) else (if p2 = (5 : Int32) then (if (f_X11_has (y.1 289 3) p1) = 0 then (some (0 : Int32)) else (some (1 : Int32))) else (some (-1 : Int32))))))))))
set_option maxRecDepth 20000 in
set_option maxHeartbeats 2000000 in
theorem f_X11_link_snd {fm : Value} {L : Nat} {xs : Nat → Int32} (p1 : Int32) (p2 : Int32) (y : mY) (x : mX) : mS fm L xs (fun r : Int32 => (.int r, (mk x y))) pg_X11_link 0 (m_entry [.ref 279, .int p1, .int p2] 3) [] (mk x y) ((f_X11_link p1 p2 y)) := by
  unfold f_X11_link
  refine mS_steps (pc' := 0) (ls' := [.ref 279, .int p1, .int p2]) (st' := []) (mem' := (mk x y)) 0 rfl ?_
  refine mS_steps (pc' := 2) (ls' := [.ref 279, .int p1, .int p2]) (st' := [.int p1, .ref 279]) (mem' := (mk x y)) 2 rfl ?_
  refine mS_bind (fun q1 hq1 => mS_call 97 2 [.ref 279, .int p1] [] rfl rfl rfl ⟨_, _, _, rfl, rfl⟩ (Nat.le_of_ble_eq_true rfl) (Nat.le_of_ble_eq_true rfl) hq1 (f_X11_isLink_snd p1 y x) ?_)
  refine mS_steps (pc' := 5) (ls' := [.ref 279, .int p1, .int p2]) (st' := [.int q1]) (mem' := (mk x y)) 0 rfl ?_
  refine mS_if1 rfl (fun _ => ?_) (fun _ => ?_)
  · refine mS_steps (pc' := 9) (ls' := [.ref 279, .int p1, .int p2]) (st' := [.int (-1 : Int32)]) (mem' := (mk x y)) 1 rfl ?_
    exact mS_reti ⟨_, _, _, _, _, rfl, rfl⟩ rfl
  · refine mS_steps (pc' := 11) (ls' := [.ref 279, .int p1, .int p2]) (st' := [.int p2]) (mem' := (mk x y)) 1 rfl ?_
    refine mS_ite (fun hc => ?_) (fun hn2 => ?_)
    · refine mS_tsw (i := 0) (t := 48) rfl (by rw [hc]; decide) rfl ?_
      refine mS_steps (pc' := 56) (ls' := [.ref 279, .int p1, .int p2]) (st' := [.int ((8 : Int32) + p1), .ref 289]) (mem' := (mk x y)) 5 rfl ?_
      refine mS_ald (b := 0) (n := 72) (z := (y.1 289 ((8 : Int32) + p1).toNatClampNeg)) rfl (by decide) rfl (by decide) rfl (fun _ => ?_)
      exact mS_reti ⟨_, _, _, _, _, rfl, rfl⟩ rfl
    refine mS_ite (fun hc => ?_) (fun hn3 => ?_)
    · refine mS_tsw (i := 1) (t := 58) rfl (by rw [hc]; decide) rfl ?_
      refine mS_steps (pc' := 66) (ls' := [.ref 279, .int p1, .int p2]) (st' := [.int ((24 : Int32) + p1), .ref 289]) (mem' := (mk x y)) 5 rfl ?_
      refine mS_ald (b := 0) (n := 72) (z := (y.1 289 ((24 : Int32) + p1).toNatClampNeg)) rfl (by decide) rfl (by decide) rfl (fun _ => ?_)
      exact mS_reti ⟨_, _, _, _, _, rfl, rfl⟩ rfl
    refine mS_ite (fun hc => ?_) (fun hn4 => ?_)
    · refine mS_tsw (i := 2) (t := 68) rfl (by rw [hc]; decide) rfl ?_
      refine mS_steps (pc' := 76) (ls' := [.ref 279, .int p1, .int p2]) (st' := [.int ((40 : Int32) + p1), .ref 289]) (mem' := (mk x y)) 5 rfl ?_
      refine mS_ald (b := 0) (n := 72) (z := (y.1 289 ((40 : Int32) + p1).toNatClampNeg)) rfl (by decide) rfl (by decide) rfl (fun _ => ?_)
      exact mS_reti ⟨_, _, _, _, _, rfl, rfl⟩ rfl
    refine mS_ite (fun hc => ?_) (fun hn5 => ?_)
    · refine mS_tsw (i := 3) (t := 78) rfl (by rw [hc]; decide) rfl ?_
      refine mS_steps (pc' := 83) (ls' := [.ref 279, .int p1, .int p2]) (st' := [.int (1 : Int32), .ref 289]) (mem' := (mk x y)) 3 rfl ?_
      refine mS_aldc (b := 0) (n := 72) (c := 1) (z := (y.1 289 1)) rfl (by decide) rfl (by decide) (by decide) (by decide) rfl ?_
      refine mS_steps (pc' := 85) (ls' := [.ref 279, .int p1, .int p2]) (st' := [.int p1, .int (y.1 289 1)]) (mem' := (mk x y)) 1 rfl ?_
      refine mS_call (q := (f_X11_has (y.1 289 1) p1)) 87 2 [.int (y.1 289 1), .int p1] [] rfl rfl rfl ⟨_, _, _, rfl, rfl⟩ (Nat.le_of_ble_eq_true rfl) (Nat.le_of_ble_eq_true rfl) rfl (f_X11_has_snd (y.1 289 1) p1 (mk x y)) ?_
      refine mS_steps (pc' := 88) (ls' := [.ref 279, .int p1, .int p2]) (st' := [.int (f_X11_has (y.1 289 1) p1)]) (mem' := (mk x y)) 0 rfl ?_
      refine mS_if0 rfl (fun _ => ?_) (fun _ => ?_)
      · refine mS_steps (pc' := 96) (ls' := [.ref 279, .int p1, .int p2]) (st' := [.int (0 : Int32)]) (mem' := (mk x y)) 1 rfl ?_
        exact mS_reti ⟨_, _, _, _, _, rfl, rfl⟩ rfl
      · refine mS_steps (pc' := 96) (ls' := [.ref 279, .int p1, .int p2]) (st' := [.int (1 : Int32)]) (mem' := (mk x y)) 2 rfl ?_
        exact mS_reti ⟨_, _, _, _, _, rfl, rfl⟩ rfl
    refine mS_ite (fun hc => ?_) (fun hn6 => ?_)
    · refine mS_tsw (i := 4) (t := 97) rfl (by rw [hc]; decide) rfl ?_
      refine mS_steps (pc' := 105) (ls' := [.ref 279, .int p1, .int p2]) (st' := [.int ((56 : Int32) + p1), .ref 289]) (mem' := (mk x y)) 5 rfl ?_
      refine mS_ald (b := 0) (n := 72) (z := (y.1 289 ((56 : Int32) + p1).toNatClampNeg)) rfl (by decide) rfl (by decide) rfl (fun _ => ?_)
      exact mS_reti ⟨_, _, _, _, _, rfl, rfl⟩ rfl
    refine mS_ite (fun hc => ?_) (fun hn7 => ?_)
    · refine mS_tsw (i := 5) (t := 107) rfl (by rw [hc]; decide) rfl ?_
      refine mS_steps (pc' := 112) (ls' := [.ref 279, .int p1, .int p2]) (st' := [.int (3 : Int32), .ref 289]) (mem' := (mk x y)) 3 rfl ?_
      refine mS_aldc (b := 0) (n := 72) (c := 3) (z := (y.1 289 3)) rfl (by decide) rfl (by decide) (by decide) (by decide) rfl ?_
      refine mS_steps (pc' := 114) (ls' := [.ref 279, .int p1, .int p2]) (st' := [.int p1, .int (y.1 289 3)]) (mem' := (mk x y)) 1 rfl ?_
      refine mS_call (q := (f_X11_has (y.1 289 3) p1)) 87 2 [.int (y.1 289 3), .int p1] [] rfl rfl rfl ⟨_, _, _, rfl, rfl⟩ (Nat.le_of_ble_eq_true rfl) (Nat.le_of_ble_eq_true rfl) rfl (f_X11_has_snd (y.1 289 3) p1 (mk x y)) ?_
      refine mS_steps (pc' := 117) (ls' := [.ref 279, .int p1, .int p2]) (st' := [.int (f_X11_has (y.1 289 3) p1)]) (mem' := (mk x y)) 0 rfl ?_
      refine mS_if0 rfl (fun _ => ?_) (fun _ => ?_)
      · refine mS_steps (pc' := 125) (ls' := [.ref 279, .int p1, .int p2]) (st' := [.int (0 : Int32)]) (mem' := (mk x y)) 1 rfl ?_
        exact mS_reti ⟨_, _, _, _, _, rfl, rfl⟩ rfl
      · refine mS_steps (pc' := 125) (ls' := [.ref 279, .int p1, .int p2]) (st' := [.int (1 : Int32)]) (mem' := (mk x y)) 2 rfl ?_
        exact mS_reti ⟨_, _, _, _, _, rfl, rfl⟩ rfl
    refine mS_tswd rfl (fun i hi => ?_) ?_
    · match i, hi with
      | 0, _ => exact Or.inl (m_nlit hn2 (by decide))
      | 1, _ => exact Or.inl (m_nlit hn3 (by decide))
      | 2, _ => exact Or.inl (m_nlit hn4 (by decide))
      | 3, _ => exact Or.inl (m_nlit hn5 (by decide))
      | 4, _ => exact Or.inl (m_nlit hn6 (by decide))
      | 5, _ => exact Or.inl (m_nlit hn7 (by decide))
      | n + 6, hi => exact absurd hi (by simp)
    refine mS_steps (pc' := 127) (ls' := [.ref 279, .int p1, .int p2]) (st' := [.int (-1 : Int32)]) (mem' := (mk x y)) 1 rfl ?_
    exact mS_reti ⟨_, _, _, _, _, rfl, rfl⟩ rfl
def f_X10_isNet (p0 : Int32) : Int32 := (if p0 = 0 then (1 : Int32) else (if p0 = (1 : Int32) then (1 : Int32) else (0 : Int32)))
set_option maxRecDepth 20000 in
set_option maxHeartbeats 2000000 in
theorem f_X10_isNet_snd {fm : Value} {L : Nat} {xs : Nat → Int32} (p0 : Int32) (mem : mM) : mS fm L xs (fun r : Int32 => (.int r, mem)) pg_X10_isNet 0 (m_entry [.int p0] 1) [] mem (some (f_X10_isNet p0)) := by
  unfold f_X10_isNet
  refine mS_steps (pc' := 0) (ls' := [.int p0]) (st' := []) (mem' := mem) 0 rfl ?_
  refine mS_steps (pc' := 1) (ls' := [.int p0]) (st' := [.int p0]) (mem' := mem) 1 rfl ?_
  refine mS_if0T rfl (fun _ => ?_) (fun _ => ?_)
  · refine mS_steps (pc' := 14) (ls' := [.int p0]) (st' := [.int (1 : Int32)]) (mem' := mem) 2 rfl ?_
    exact mS_reti ⟨_, _, _, _, _, rfl, (by decide)⟩ rfl
  · refine mS_steps (pc' := 6) (ls' := [.int p0]) (st' := [.int (1 : Int32), .int p0]) (mem' := mem) 2 rfl ?_
    refine mS_ic1T rfl (fun _ => ?_) (fun _ => ?_)
    · refine mS_steps (pc' := 14) (ls' := [.int p0]) (st' := [.int (1 : Int32)]) (mem' := mem) 2 rfl ?_
      exact mS_reti ⟨_, _, _, _, _, rfl, (by decide)⟩ rfl
    · refine mS_steps (pc' := 14) (ls' := [.int p0]) (st' := [.int (0 : Int32)]) (mem' := mem) 1 rfl ?_
      exact mS_reti ⟨_, _, _, _, _, rfl, (by decide)⟩ rfl
def f_X1_forget (x : mX) : mX := (m_let (m_xs x 256 2 (0 : Int32)) fun x1 => x1)
set_option maxRecDepth 20000 in
set_option maxHeartbeats 2000000 in
theorem f_X1_forget_snd {fm : Value} {L : Nat} {xs : Nat → Int32} (x : mX) (y : mY) : mS fm L xs (fun r : mX => (mU, mk r y)) pg_X1_forget 0 (m_entry [.ref 256] 1) [] (mk x y) (some (f_X1_forget x)) := by
  unfold f_X1_forget
  refine mS_steps (pc' := 0) (ls' := [.ref 256]) (st' := []) (mem' := (mk x y)) 0 rfl ?_
  refine mS_steps (pc' := 2) (ls' := [.ref 256]) (st' := [.int (0 : Int32), .ref 256]) (mem' := (mk x y)) 2 rfl ?_
  refine mS_putcx rfl rfl (by decide) rfl (by decide) ?_
  refine mS_letxT (fun x1 => ?_)
  exact mS_retv ⟨_, _, _, _, _, rfl⟩ rfl
def f_X10_presentNet (x : mX) : Option (Nat × mX) := (if (x.1 0 6) = 0 then (some (222, x)) else ((f_X6_live 14 x).bind fun q1 => ((f_X3_build 222 (x.1 14 2) q1 x).bind fun q2 => (m_let (f_X1_forget q2) fun x3 => (m_let (m_xs x3 0 6 (0 : Int32)) fun x4 => (some (222, x4)))))))
set_option maxRecDepth 20000 in
set_option maxHeartbeats 2000000 in
theorem f_X10_presentNet_snd {fm : Value} {L : Nat} {xs : Nat → Int32} (x : mX) (y : mY) : mS fm L xs (fun r : (Nat × mX) => (.ref r.1, mk r.2 y)) pg_X10_presentNet 0 (m_entry [.ref 0] 1) [] (mk x y) ((f_X10_presentNet x)) := by
  unfold f_X10_presentNet
  refine mS_steps (pc' := 0) (ls' := [.ref 0]) (st' := []) (mem' := (mk x y)) 0 rfl ?_
  refine mS_steps (pc' := 4) (ls' := [.ref 0]) (st' := [.int (x.1 0 6)]) (mem' := (mk x y)) 2 rfl ?_
  refine mS_if0 rfl (fun _ => ?_) (fun _ => ?_)
  · refine mS_steps (pc' := 48) (ls' := [.ref 0]) (st' := [.ref 222]) (mem' := (mk x y)) 2 rfl ?_
    exact mS_reta ⟨_, _, _, _, _, rfl⟩ rfl
  · refine mS_steps (pc' := 26) (ls' := [.ref 0]) (st' := [.ref 14, .int (x.1 14 2), .ref 14, .ref 222]) (mem' := (mk x y)) 9 rfl ?_
    refine mS_bind (fun q1 hq1 => mS_call 61 1 [.ref 14] [.int (x.1 14 2), .ref 14, .ref 222] rfl rfl rfl ⟨_, _, _, rfl, rfl⟩ (Nat.le_of_ble_eq_true rfl) (Nat.le_of_ble_eq_true rfl) hq1 (f_X6_live_14_snd  x y) ?_)
    refine mS_steps (pc' := 29) (ls' := [.ref 0]) (st' := [.int q1, .int (x.1 14 2), .ref 14, .ref 222]) (mem' := (mk x y)) 0 rfl ?_
    refine mS_bind (fun q2 hq2 => mS_call 117 4 [.ref 222, .ref 14, .int (x.1 14 2), .int q1] [] rfl rfl rfl ⟨_, _, _, rfl, rfl⟩ (Nat.le_of_ble_eq_true rfl) (Nat.le_of_ble_eq_true rfl) hq2 (f_X3_build_222_snd (x.1 14 2) q1 x y) ?_)
    refine mS_steps (pc' := 36) (ls' := [.ref 0]) (st' := [.ref 256]) (mem' := (mk q2 y)) 2 rfl ?_
    refine mS_call (q := (f_X1_forget q2)) 167 1 [.ref 256] [] rfl rfl rfl ⟨_, _, _, rfl, rfl⟩ (Nat.le_of_ble_eq_true rfl) (Nat.le_of_ble_eq_true rfl) rfl (f_X1_forget_snd  q2 y) ?_
    refine mS_letx (fun x3 => ?_)
    refine mS_steps (pc' := 41) (ls' := [.ref 0]) (st' := [.int (0 : Int32), .ref 0]) (mem' := (mk x3 y)) 2 rfl ?_
    refine mS_putcx rfl rfl (by decide) rfl (by decide) ?_
    refine mS_letx (fun x4 => ?_)
    refine mS_steps (pc' := 48) (ls' := [.ref 0]) (st' := [.ref 222]) (mem' := (mk x4 y)) 2 rfl ?_
    exact mS_reta ⟨_, _, _, _, _, rfl⟩ rfl
def f_X10_netOf (p1 : Int32) (x : mX) : Option (Nat × mX) := (if p1 = 0 then ((f_X10_presentNet x).bind fun q1 => (if q1.1 = 222 then (some (222, q1.2)) else none)) else ((f_X10_learntNet x).bind fun q2 => (if q2.1 = 228 then (some (228, q2.2)) else none)))
set_option maxRecDepth 20000 in
set_option maxHeartbeats 2000000 in
theorem f_X10_netOf_snd {fm : Value} {L : Nat} {xs : Nat → Int32} (p1 : Int32) (x : mX) (y : mY) : mS fm L xs (fun r : (Nat × mX) => (.ref r.1, mk r.2 y)) pg_X10_netOf 0 (m_entry [.ref 0, .int p1] 2) [] (mk x y) ((f_X10_netOf p1 x)) := by
  unfold f_X10_netOf
  refine mS_steps (pc' := 0) (ls' := [.ref 0, .int p1]) (st' := []) (mem' := (mk x y)) 0 rfl ?_
  refine mS_steps (pc' := 1) (ls' := [.ref 0, .int p1]) (st' := [.int p1]) (mem' := (mk x y)) 1 rfl ?_
  refine mS_if1 rfl (fun _ => ?_) (fun _ => ?_)
  · refine mS_steps (pc' := 5) (ls' := [.ref 0, .int p1]) (st' := [.ref 0]) (mem' := (mk x y)) 1 rfl ?_
    refine mS_bind (fun q1 hq1 => mS_call 168 1 [.ref 0] [] rfl rfl rfl ⟨_, _, _, rfl, rfl⟩ (Nat.le_of_ble_eq_true rfl) (Nat.le_of_ble_eq_true rfl) hq1 (f_X10_presentNet_snd  x y) ?_)
    refine mS_steps (pc' := 8) (ls' := [.ref 0, .int p1]) (st' := .ref q1.1 :: []) (mem' := (mk q1.2 y)) 0 rfl ?_
    refine mS_guard (fun hrq1 => ?_)
    rw [hrq1]
    refine mS_steps (pc' := 15) (ls' := [.ref 0, .int p1]) (st' := [.ref 222]) (mem' := (mk q1.2 y)) 1 rfl ?_
    exact mS_reta ⟨_, _, _, _, _, rfl⟩ rfl
  · refine mS_steps (pc' := 12) (ls' := [.ref 0, .int p1]) (st' := [.ref 0]) (mem' := (mk x y)) 1 rfl ?_
    refine mS_bind (fun q2 hq2 => mS_call 119 1 [.ref 0] [] rfl rfl rfl ⟨_, _, _, rfl, rfl⟩ (Nat.le_of_ble_eq_true rfl) (Nat.le_of_ble_eq_true rfl) hq2 (f_X10_learntNet_snd  x y) ?_)
    refine mS_steps (pc' := 15) (ls' := [.ref 0, .int p1]) (st' := .ref q2.1 :: []) (mem' := (mk q2.2 y)) 0 rfl ?_
    refine mS_guard (fun hrq2 => ?_)
    rw [hrq2]
    refine mS_steps (pc' := 15) (ls' := [.ref 0, .int p1]) (st' := [.ref 228]) (mem' := (mk q2.2 y)) 0 rfl ?_
    exact mS_reta ⟨_, _, _, _, _, rfl⟩ rfl
def f_X3_isLeast (r0 : Nat) (p1 : Int32) (p2 : Int32) : Option Int32 := (if p2 = 0 then (some (0 : Int32)) else ((f_X10_lowest p2).bind fun q1 => (if q1 = p1 then (some (1 : Int32)) else (some (0 : Int32)))))
set_option maxRecDepth 20000 in
set_option maxHeartbeats 2000000 in
theorem f_X3_isLeast_222_snd {fm : Value} {L : Nat} {xs : Nat → Int32} (p1 : Int32) (p2 : Int32) (mem : mM) : mS fm L xs (fun r : Int32 => (.int r, mem)) pg_X3_isLeast 0 (m_entry [.ref 222, .int p1, .int p2] 3) [] mem ((f_X3_isLeast 222 p1 p2)) := by
  unfold f_X3_isLeast
  refine mS_steps (pc' := 0) (ls' := [.ref 222, .int p1, .int p2]) (st' := []) (mem' := mem) 0 rfl ?_
  refine mS_steps (pc' := 1) (ls' := [.ref 222, .int p1, .int p2]) (st' := [.int p2]) (mem' := mem) 1 rfl ?_
  refine mS_if0 rfl (fun _ => ?_) (fun _ => ?_)
  · refine mS_steps (pc' := 17) (ls' := [.ref 222, .int p1, .int p2]) (st' := [.int (0 : Int32)]) (mem' := mem) 1 rfl ?_
    exact mS_reti ⟨_, _, _, _, _, rfl, (by decide)⟩ rfl
  · refine mS_steps (pc' := 5) (ls' := [.ref 222, .int p1, .int p2]) (st' := [.int p2]) (mem' := mem) 1 rfl ?_
    refine mS_bind (fun q1 hq1 => mS_call 126 1 [.int p2] [] rfl rfl rfl ⟨_, _, _, rfl, rfl⟩ (Nat.le_of_ble_eq_true rfl) (Nat.le_of_ble_eq_true rfl) hq1 (f_X10_lowest_snd p2 mem) ?_)
    refine mS_steps (pc' := 9) (ls' := [.ref 222, .int p1, .int p2]) (st' := [.int p1, .int q1]) (mem' := mem) 1 rfl ?_
    refine mS_ic1 rfl (fun _ => ?_) (fun _ => ?_)
    · refine mS_steps (pc' := 17) (ls' := [.ref 222, .int p1, .int p2]) (st' := [.int (1 : Int32)]) (mem' := mem) 2 rfl ?_
      exact mS_reti ⟨_, _, _, _, _, rfl, (by decide)⟩ rfl
    · refine mS_steps (pc' := 17) (ls' := [.ref 222, .int p1, .int p2]) (st' := [.int (0 : Int32)]) (mem' := mem) 1 rfl ?_
      exact mS_reti ⟨_, _, _, _, _, rfl, (by decide)⟩ rfl
set_option maxRecDepth 20000 in
set_option maxHeartbeats 2000000 in
theorem f_X3_isLeast_228_snd {fm : Value} {L : Nat} {xs : Nat → Int32} (p1 : Int32) (p2 : Int32) (mem : mM) : mS fm L xs (fun r : Int32 => (.int r, mem)) pg_X3_isLeast 0 (m_entry [.ref 228, .int p1, .int p2] 3) [] mem ((f_X3_isLeast 228 p1 p2)) := by
  unfold f_X3_isLeast
  refine mS_steps (pc' := 0) (ls' := [.ref 228, .int p1, .int p2]) (st' := []) (mem' := mem) 0 rfl ?_
  refine mS_steps (pc' := 1) (ls' := [.ref 228, .int p1, .int p2]) (st' := [.int p2]) (mem' := mem) 1 rfl ?_
  refine mS_if0 rfl (fun _ => ?_) (fun _ => ?_)
  · refine mS_steps (pc' := 17) (ls' := [.ref 228, .int p1, .int p2]) (st' := [.int (0 : Int32)]) (mem' := mem) 1 rfl ?_
    exact mS_reti ⟨_, _, _, _, _, rfl, (by decide)⟩ rfl
  · refine mS_steps (pc' := 5) (ls' := [.ref 228, .int p1, .int p2]) (st' := [.int p2]) (mem' := mem) 1 rfl ?_
    refine mS_bind (fun q1 hq1 => mS_call 126 1 [.int p2] [] rfl rfl rfl ⟨_, _, _, rfl, rfl⟩ (Nat.le_of_ble_eq_true rfl) (Nat.le_of_ble_eq_true rfl) hq1 (f_X10_lowest_snd p2 mem) ?_)
    refine mS_steps (pc' := 9) (ls' := [.ref 228, .int p1, .int p2]) (st' := [.int p1, .int q1]) (mem' := mem) 1 rfl ?_
    refine mS_ic1 rfl (fun _ => ?_) (fun _ => ?_)
    · refine mS_steps (pc' := 17) (ls' := [.ref 228, .int p1, .int p2]) (st' := [.int (1 : Int32)]) (mem' := mem) 2 rfl ?_
      exact mS_reti ⟨_, _, _, _, _, rfl, (by decide)⟩ rfl
    · refine mS_steps (pc' := 17) (ls' := [.ref 228, .int p1, .int p2]) (st' := [.int (0 : Int32)]) (mem' := mem) 1 rfl ?_
      exact mS_reti ⟨_, _, _, _, _, rfl, (by decide)⟩ rfl
set_option maxRecDepth 20000 in
set_option maxHeartbeats 2000000 in
theorem f_X3_isLeast_258_snd {fm : Value} {L : Nat} {xs : Nat → Int32} (p1 : Int32) (p2 : Int32) (mem : mM) : mS fm L xs (fun r : Int32 => (.int r, mem)) pg_X3_isLeast 0 (m_entry [.ref 258, .int p1, .int p2] 3) [] mem ((f_X3_isLeast 258 p1 p2)) := by
  unfold f_X3_isLeast
  refine mS_steps (pc' := 0) (ls' := [.ref 258, .int p1, .int p2]) (st' := []) (mem' := mem) 0 rfl ?_
  refine mS_steps (pc' := 1) (ls' := [.ref 258, .int p1, .int p2]) (st' := [.int p2]) (mem' := mem) 1 rfl ?_
  refine mS_if0 rfl (fun _ => ?_) (fun _ => ?_)
  · refine mS_steps (pc' := 17) (ls' := [.ref 258, .int p1, .int p2]) (st' := [.int (0 : Int32)]) (mem' := mem) 1 rfl ?_
    exact mS_reti ⟨_, _, _, _, _, rfl, (by decide)⟩ rfl
  · refine mS_steps (pc' := 5) (ls' := [.ref 258, .int p1, .int p2]) (st' := [.int p2]) (mem' := mem) 1 rfl ?_
    refine mS_bind (fun q1 hq1 => mS_call 126 1 [.int p2] [] rfl rfl rfl ⟨_, _, _, rfl, rfl⟩ (Nat.le_of_ble_eq_true rfl) (Nat.le_of_ble_eq_true rfl) hq1 (f_X10_lowest_snd p2 mem) ?_)
    refine mS_steps (pc' := 9) (ls' := [.ref 258, .int p1, .int p2]) (st' := [.int p1, .int q1]) (mem' := mem) 1 rfl ?_
    refine mS_ic1 rfl (fun _ => ?_) (fun _ => ?_)
    · refine mS_steps (pc' := 17) (ls' := [.ref 258, .int p1, .int p2]) (st' := [.int (1 : Int32)]) (mem' := mem) 2 rfl ?_
      exact mS_reti ⟨_, _, _, _, _, rfl, (by decide)⟩ rfl
    · refine mS_steps (pc' := 17) (ls' := [.ref 258, .int p1, .int p2]) (st' := [.int (0 : Int32)]) (mem' := mem) 1 rfl ?_
      exact mS_reti ⟨_, _, _, _, _, rfl, (by decide)⟩ rfl
def f_X3_pieceAt_L4 (r0 : Nat) (a1 : Int32) : Nat → Int32 → Int32 → mX → Option Int32
  | 0, _, _, _ => none
  | n + 1, a2, a3, x => (if (8 : Int32) ≤ a3 then (if a1 = (-1 : Int32) then (some a2) else (some (-1 : Int32))) else (if m_in a3 8 = true then ((f_X3_isLeast r0 a3 (x.1 (r0 + 2) a3.toNatClampNeg)).bind fun q1 => (if q1 = 0 then (f_X3_pieceAt_L4 r0 a1 n a2 (a3 + (1 : Int32)) x) else (if a2 = a1 then (if m_in a3 8 = true then (some (x.1 (r0 + 2) a3.toNatClampNeg)) else none) else (f_X3_pieceAt_L4 r0 a1 n (a2 + (1 : Int32)) (a3 + (1 : Int32)) x)))) else none))
def f_X3_pieceAt (r0 : Nat) (p1 : Int32) (x : mX) : Option Int32 := (f_X3_pieceAt_L4 r0 p1 mF (0 : Int32) (0 : Int32) x)
set_option maxRecDepth 20000 in
set_option maxHeartbeats 2000000 in
theorem f_X3_pieceAt_L4_222_snd {fm : Value} {L : Nat} {xs : Nat → Int32} (a1 : Int32) (x : mX) (y : mY) : ∀ (n : Nat) (a2 : Int32) (a3 : Int32), mS fm L xs (fun r : Int32 => (.int r, (mk x y))) pg_X3_pieceAt 4 [.ref 222, .int a1, .int a2, .int a3] [] (mk x y) (f_X3_pieceAt_L4 222 a1 n a2 a3 x) := by
  intro n
  induction n with
  | zero => intro a2 a3; exact mS_none
  | succ n ih =>
    intro a2 a3
    rw [f_X3_pieceAt_L4]
    refine mS_steps (pc' := 7) (ls' := [.ref 222, .int a1, .int a2, .int a3]) (st' := [.int (8 : Int32), .int a3]) (mem' := (mk x y)) 2 rfl ?_
    refine mS_ic3 rfl (fun _ => ?_) (fun _ => ?_)
    · refine mS_steps (pc' := 47) (ls' := [.ref 222, .int a1, .int a2, .int a3]) (st' := [.int (-1 : Int32), .int a1]) (mem' := (mk x y)) 2 rfl ?_
      refine mS_ic1 rfl (fun _ => ?_) (fun _ => ?_)
      · refine mS_steps (pc' := 55) (ls' := [.ref 222, .int a1, .int a2, .int a3]) (st' := [.int a2]) (mem' := (mk x y)) 2 rfl ?_
        exact mS_reti ⟨_, _, _, _, _, rfl, rfl⟩ rfl
      · refine mS_steps (pc' := 55) (ls' := [.ref 222, .int a1, .int a2, .int a3]) (st' := [.int (-1 : Int32)]) (mem' := (mk x y)) 1 rfl ?_
        exact mS_reti ⟨_, _, _, _, _, rfl, rfl⟩ rfl
    · refine mS_steps (pc' := 17) (ls' := [.ref 222, .int a1, .int a2, .int a3]) (st' := [.int a3, .ref 224, .int a3, .ref 222]) (mem' := (mk x y)) 5 rfl ?_
      refine mS_ald (b := 0) (n := 8) (z := (x.1 (222 + 2) a3.toNatClampNeg)) rfl (by decide) rfl (by decide) rfl (fun _ => ?_)
      refine mS_bind (fun q1 hq1 => mS_call 170 3 [.ref 222, .int a3, .int (x.1 (222 + 2) a3.toNatClampNeg)] [] rfl rfl rfl ⟨_, _, _, rfl, rfl⟩ (Nat.le_of_ble_eq_true rfl) (Nat.le_of_ble_eq_true rfl) hq1 (f_X3_isLeast_222_snd a3 (x.1 (222 + 2) a3.toNatClampNeg) (mk x y)) ?_)
      refine mS_steps (pc' := 21) (ls' := [.ref 222, .int a1, .int a2, .int a3]) (st' := [.int q1]) (mem' := (mk x y)) 0 rfl ?_
      refine mS_if0 rfl (fun _ => ?_) (fun _ => ?_)
      · refine mS_steps (pc' := 4) (ls' := [.ref 222, .int a1, .int a2, .int (a3 + (1 : Int32))]) (st' := []) (mem' := (mk x y)) 2 rfl ?_
        exact ih a2 (a3 + (1 : Int32))
      · refine mS_steps (pc' := 26) (ls' := [.ref 222, .int a1, .int a2, .int a3]) (st' := [.int a1, .int a2]) (mem' := (mk x y)) 2 rfl ?_
        refine mS_ic1 rfl (fun _ => ?_) (fun _ => ?_)
        · refine mS_steps (pc' := 34) (ls' := [.ref 222, .int a1, .int a2, .int a3]) (st' := [.int a3, .ref 224]) (mem' := (mk x y)) 3 rfl ?_
          refine mS_ald (b := 0) (n := 8) (z := (x.1 (222 + 2) a3.toNatClampNeg)) rfl (by decide) rfl (by decide) rfl (fun _ => ?_)
          exact mS_reti ⟨_, _, _, _, _, rfl, rfl⟩ rfl
        · refine mS_steps (pc' := 4) (ls' := [.ref 222, .int a1, .int (a2 + (1 : Int32)), .int (a3 + (1 : Int32))]) (st' := []) (mem' := (mk x y)) 3 rfl ?_
          exact ih (a2 + (1 : Int32)) (a3 + (1 : Int32))
set_option maxRecDepth 20000 in
set_option maxHeartbeats 2000000 in
theorem f_X3_pieceAt_222_snd {fm : Value} {L : Nat} {xs : Nat → Int32} (p1 : Int32) (x : mX) (y : mY) : mS fm L xs (fun r : Int32 => (.int r, (mk x y))) pg_X3_pieceAt 0 (m_entry [.ref 222, .int p1] 4) [] (mk x y) ((f_X3_pieceAt 222 p1 x)) := by
  unfold f_X3_pieceAt
  refine mS_steps (pc' := 0) (ls' := [.ref 222, .int p1, mU, mU]) (st' := []) (mem' := (mk x y)) 0 rfl ?_
  refine mS_steps (pc' := 4) (ls' := [.ref 222, .int p1, .int (0 : Int32), .int (0 : Int32)]) (st' := []) (mem' := (mk x y)) 4 rfl ?_
  refine f_X3_pieceAt_L4_222_snd p1 x y mF (0 : Int32) (0 : Int32)
set_option maxRecDepth 20000 in
set_option maxHeartbeats 2000000 in
theorem f_X3_pieceAt_L4_228_snd {fm : Value} {L : Nat} {xs : Nat → Int32} (a1 : Int32) (x : mX) (y : mY) : ∀ (n : Nat) (a2 : Int32) (a3 : Int32), mS fm L xs (fun r : Int32 => (.int r, (mk x y))) pg_X3_pieceAt 4 [.ref 228, .int a1, .int a2, .int a3] [] (mk x y) (f_X3_pieceAt_L4 228 a1 n a2 a3 x) := by
  intro n
  induction n with
  | zero => intro a2 a3; exact mS_none
  | succ n ih =>
    intro a2 a3
    rw [f_X3_pieceAt_L4]
    refine mS_steps (pc' := 7) (ls' := [.ref 228, .int a1, .int a2, .int a3]) (st' := [.int (8 : Int32), .int a3]) (mem' := (mk x y)) 2 rfl ?_
    refine mS_ic3 rfl (fun _ => ?_) (fun _ => ?_)
    · refine mS_steps (pc' := 47) (ls' := [.ref 228, .int a1, .int a2, .int a3]) (st' := [.int (-1 : Int32), .int a1]) (mem' := (mk x y)) 2 rfl ?_
      refine mS_ic1 rfl (fun _ => ?_) (fun _ => ?_)
      · refine mS_steps (pc' := 55) (ls' := [.ref 228, .int a1, .int a2, .int a3]) (st' := [.int a2]) (mem' := (mk x y)) 2 rfl ?_
        exact mS_reti ⟨_, _, _, _, _, rfl, rfl⟩ rfl
      · refine mS_steps (pc' := 55) (ls' := [.ref 228, .int a1, .int a2, .int a3]) (st' := [.int (-1 : Int32)]) (mem' := (mk x y)) 1 rfl ?_
        exact mS_reti ⟨_, _, _, _, _, rfl, rfl⟩ rfl
    · refine mS_steps (pc' := 17) (ls' := [.ref 228, .int a1, .int a2, .int a3]) (st' := [.int a3, .ref 230, .int a3, .ref 228]) (mem' := (mk x y)) 5 rfl ?_
      refine mS_ald (b := 0) (n := 8) (z := (x.1 (228 + 2) a3.toNatClampNeg)) rfl (by decide) rfl (by decide) rfl (fun _ => ?_)
      refine mS_bind (fun q1 hq1 => mS_call 170 3 [.ref 228, .int a3, .int (x.1 (228 + 2) a3.toNatClampNeg)] [] rfl rfl rfl ⟨_, _, _, rfl, rfl⟩ (Nat.le_of_ble_eq_true rfl) (Nat.le_of_ble_eq_true rfl) hq1 (f_X3_isLeast_228_snd a3 (x.1 (228 + 2) a3.toNatClampNeg) (mk x y)) ?_)
      refine mS_steps (pc' := 21) (ls' := [.ref 228, .int a1, .int a2, .int a3]) (st' := [.int q1]) (mem' := (mk x y)) 0 rfl ?_
      refine mS_if0 rfl (fun _ => ?_) (fun _ => ?_)
      · refine mS_steps (pc' := 4) (ls' := [.ref 228, .int a1, .int a2, .int (a3 + (1 : Int32))]) (st' := []) (mem' := (mk x y)) 2 rfl ?_
        exact ih a2 (a3 + (1 : Int32))
      · refine mS_steps (pc' := 26) (ls' := [.ref 228, .int a1, .int a2, .int a3]) (st' := [.int a1, .int a2]) (mem' := (mk x y)) 2 rfl ?_
        refine mS_ic1 rfl (fun _ => ?_) (fun _ => ?_)
        · refine mS_steps (pc' := 34) (ls' := [.ref 228, .int a1, .int a2, .int a3]) (st' := [.int a3, .ref 230]) (mem' := (mk x y)) 3 rfl ?_
          refine mS_ald (b := 0) (n := 8) (z := (x.1 (228 + 2) a3.toNatClampNeg)) rfl (by decide) rfl (by decide) rfl (fun _ => ?_)
          exact mS_reti ⟨_, _, _, _, _, rfl, rfl⟩ rfl
        · refine mS_steps (pc' := 4) (ls' := [.ref 228, .int a1, .int (a2 + (1 : Int32)), .int (a3 + (1 : Int32))]) (st' := []) (mem' := (mk x y)) 3 rfl ?_
          exact ih (a2 + (1 : Int32)) (a3 + (1 : Int32))
set_option maxRecDepth 20000 in
set_option maxHeartbeats 2000000 in
theorem f_X3_pieceAt_228_snd {fm : Value} {L : Nat} {xs : Nat → Int32} (p1 : Int32) (x : mX) (y : mY) : mS fm L xs (fun r : Int32 => (.int r, (mk x y))) pg_X3_pieceAt 0 (m_entry [.ref 228, .int p1] 4) [] (mk x y) ((f_X3_pieceAt 228 p1 x)) := by
  unfold f_X3_pieceAt
  refine mS_steps (pc' := 0) (ls' := [.ref 228, .int p1, mU, mU]) (st' := []) (mem' := (mk x y)) 0 rfl ?_
  refine mS_steps (pc' := 4) (ls' := [.ref 228, .int p1, .int (0 : Int32), .int (0 : Int32)]) (st' := []) (mem' := (mk x y)) 4 rfl ?_
  refine f_X3_pieceAt_L4_228_snd p1 x y mF (0 : Int32) (0 : Int32)
set_option maxRecDepth 20000 in
set_option maxHeartbeats 2000000 in
theorem f_X3_pieceAt_L4_258_snd {fm : Value} {L : Nat} {xs : Nat → Int32} (a1 : Int32) (x : mX) (y : mY) : ∀ (n : Nat) (a2 : Int32) (a3 : Int32), mS fm L xs (fun r : Int32 => (.int r, (mk x y))) pg_X3_pieceAt 4 [.ref 258, .int a1, .int a2, .int a3] [] (mk x y) (f_X3_pieceAt_L4 258 a1 n a2 a3 x) := by
  intro n
  induction n with
  | zero => intro a2 a3; exact mS_none
  | succ n ih =>
    intro a2 a3
    rw [f_X3_pieceAt_L4]
    refine mS_steps (pc' := 7) (ls' := [.ref 258, .int a1, .int a2, .int a3]) (st' := [.int (8 : Int32), .int a3]) (mem' := (mk x y)) 2 rfl ?_
    refine mS_ic3 rfl (fun _ => ?_) (fun _ => ?_)
    · refine mS_steps (pc' := 47) (ls' := [.ref 258, .int a1, .int a2, .int a3]) (st' := [.int (-1 : Int32), .int a1]) (mem' := (mk x y)) 2 rfl ?_
      refine mS_ic1 rfl (fun _ => ?_) (fun _ => ?_)
      · refine mS_steps (pc' := 55) (ls' := [.ref 258, .int a1, .int a2, .int a3]) (st' := [.int a2]) (mem' := (mk x y)) 2 rfl ?_
        exact mS_reti ⟨_, _, _, _, _, rfl, rfl⟩ rfl
      · refine mS_steps (pc' := 55) (ls' := [.ref 258, .int a1, .int a2, .int a3]) (st' := [.int (-1 : Int32)]) (mem' := (mk x y)) 1 rfl ?_
        exact mS_reti ⟨_, _, _, _, _, rfl, rfl⟩ rfl
    · refine mS_steps (pc' := 17) (ls' := [.ref 258, .int a1, .int a2, .int a3]) (st' := [.int a3, .ref 260, .int a3, .ref 258]) (mem' := (mk x y)) 5 rfl ?_
      refine mS_ald (b := 0) (n := 8) (z := (x.1 (258 + 2) a3.toNatClampNeg)) rfl (by decide) rfl (by decide) rfl (fun _ => ?_)
      refine mS_bind (fun q1 hq1 => mS_call 170 3 [.ref 258, .int a3, .int (x.1 (258 + 2) a3.toNatClampNeg)] [] rfl rfl rfl ⟨_, _, _, rfl, rfl⟩ (Nat.le_of_ble_eq_true rfl) (Nat.le_of_ble_eq_true rfl) hq1 (f_X3_isLeast_258_snd a3 (x.1 (258 + 2) a3.toNatClampNeg) (mk x y)) ?_)
      refine mS_steps (pc' := 21) (ls' := [.ref 258, .int a1, .int a2, .int a3]) (st' := [.int q1]) (mem' := (mk x y)) 0 rfl ?_
      refine mS_if0 rfl (fun _ => ?_) (fun _ => ?_)
      · refine mS_steps (pc' := 4) (ls' := [.ref 258, .int a1, .int a2, .int (a3 + (1 : Int32))]) (st' := []) (mem' := (mk x y)) 2 rfl ?_
        exact ih a2 (a3 + (1 : Int32))
      · refine mS_steps (pc' := 26) (ls' := [.ref 258, .int a1, .int a2, .int a3]) (st' := [.int a1, .int a2]) (mem' := (mk x y)) 2 rfl ?_
        refine mS_ic1 rfl (fun _ => ?_) (fun _ => ?_)
        · refine mS_steps (pc' := 34) (ls' := [.ref 258, .int a1, .int a2, .int a3]) (st' := [.int a3, .ref 260]) (mem' := (mk x y)) 3 rfl ?_
          refine mS_ald (b := 0) (n := 8) (z := (x.1 (258 + 2) a3.toNatClampNeg)) rfl (by decide) rfl (by decide) rfl (fun _ => ?_)
          exact mS_reti ⟨_, _, _, _, _, rfl, rfl⟩ rfl
        · refine mS_steps (pc' := 4) (ls' := [.ref 258, .int a1, .int (a2 + (1 : Int32)), .int (a3 + (1 : Int32))]) (st' := []) (mem' := (mk x y)) 3 rfl ?_
          exact ih (a2 + (1 : Int32)) (a3 + (1 : Int32))
set_option maxRecDepth 20000 in
set_option maxHeartbeats 2000000 in
theorem f_X3_pieceAt_258_snd {fm : Value} {L : Nat} {xs : Nat → Int32} (p1 : Int32) (x : mX) (y : mY) : mS fm L xs (fun r : Int32 => (.int r, (mk x y))) pg_X3_pieceAt 0 (m_entry [.ref 258, .int p1] 4) [] (mk x y) ((f_X3_pieceAt 258 p1 x)) := by
  unfold f_X3_pieceAt
  refine mS_steps (pc' := 0) (ls' := [.ref 258, .int p1, mU, mU]) (st' := []) (mem' := (mk x y)) 0 rfl ?_
  refine mS_steps (pc' := 4) (ls' := [.ref 258, .int p1, .int (0 : Int32), .int (0 : Int32)]) (st' := []) (mem' := (mk x y)) 4 rfl ?_
  refine f_X3_pieceAt_L4_258_snd p1 x y mF (0 : Int32) (0 : Int32)
def f_X10_piece (p1 : Int32) (p2 : Int32) (x : mX) : Option (Int32 × mX) := (if (f_X10_isNet p1) = 0 then (some ((-1 : Int32), x)) else ((f_X10_netOf p1 x).bind fun q1 => (if q1.1 = 222 then ((f_X3_pieceAt 222 p2 q1.2).bind fun q2 => (some (q2, q1.2))) else (if q1.1 = 228 then ((f_X3_pieceAt 228 p2 q1.2).bind fun q3 => (some (q3, q1.2))) else none))))
set_option maxRecDepth 20000 in
set_option maxHeartbeats 2000000 in
theorem f_X10_piece_snd {fm : Value} {L : Nat} {xs : Nat → Int32} (p1 : Int32) (p2 : Int32) (x : mX) (y : mY) : mS fm L xs (fun r : (Int32 × mX) => (.int r.1, mk r.2 y)) pg_X10_piece 0 (m_entry [.ref 0, .int p1, .int p2] 3) [] (mk x y) ((f_X10_piece p1 p2 x)) := by
  unfold f_X10_piece
  refine mS_steps (pc' := 0) (ls' := [.ref 0, .int p1, .int p2]) (st' := []) (mem' := (mk x y)) 0 rfl ?_
  refine mS_steps (pc' := 1) (ls' := [.ref 0, .int p1, .int p2]) (st' := [.int p1]) (mem' := (mk x y)) 1 rfl ?_
  refine mS_call (q := (f_X10_isNet p1)) 166 1 [.int p1] [] rfl rfl rfl ⟨_, _, _, rfl, rfl⟩ (Nat.le_of_ble_eq_true rfl) (Nat.le_of_ble_eq_true rfl) rfl (f_X10_isNet_snd p1 (mk x y)) ?_
  refine mS_steps (pc' := 4) (ls' := [.ref 0, .int p1, .int p2]) (st' := [.int (f_X10_isNet p1)]) (mem' := (mk x y)) 0 rfl ?_
  refine mS_if0 rfl (fun _ => ?_) (fun _ => ?_)
  · refine mS_steps (pc' := 20) (ls' := [.ref 0, .int p1, .int p2]) (st' := [.int (-1 : Int32)]) (mem' := (mk x y)) 1 rfl ?_
    exact mS_reti ⟨_, _, _, _, _, rfl, rfl⟩ rfl
  · refine mS_steps (pc' := 9) (ls' := [.ref 0, .int p1, .int p2]) (st' := [.int p1, .ref 0]) (mem' := (mk x y)) 2 rfl ?_
    refine mS_bind (fun q1 hq1 => mS_call 169 2 [.ref 0, .int p1] [] rfl rfl rfl ⟨_, _, _, rfl, rfl⟩ (Nat.le_of_ble_eq_true rfl) (Nat.le_of_ble_eq_true rfl) hq1 (f_X10_netOf_snd p1 x y) ?_)
    refine mS_steps (pc' := 13) (ls' := [.ref 0, .int p1, .int p2]) (st' := [.int p2, .ref q1.1]) (mem' := (mk q1.2 y)) 1 rfl ?_
    refine mS_ite (fun hc => ?_) (fun _ => ?_)
    · rw [hc]
      refine mS_steps (pc' := 13) (ls' := [.ref 0, .int p1, .int p2]) (st' := [.int p2, .ref 222]) (mem' := (mk q1.2 y)) 0 rfl ?_
      refine mS_bind (fun q2 hq2 => mS_call 171 2 [.ref 222, .int p2] [] rfl rfl rfl ⟨_, _, _, rfl, rfl⟩ (Nat.le_of_ble_eq_true rfl) (Nat.le_of_ble_eq_true rfl) hq2 (f_X3_pieceAt_222_snd p2 q1.2 y) ?_)
      refine mS_steps (pc' := 20) (ls' := [.ref 0, .int p1, .int p2]) (st' := [.int q2]) (mem' := (mk q1.2 y)) 1 rfl ?_
      exact mS_reti ⟨_, _, _, _, _, rfl, rfl⟩ rfl
    refine mS_ite (fun hc => ?_) (fun _ => ?_)
    · rw [hc]
      refine mS_steps (pc' := 13) (ls' := [.ref 0, .int p1, .int p2]) (st' := [.int p2, .ref 228]) (mem' := (mk q1.2 y)) 0 rfl ?_
      refine mS_bind (fun q3 hq3 => mS_call 171 2 [.ref 228, .int p2] [] rfl rfl rfl ⟨_, _, _, rfl, rfl⟩ (Nat.le_of_ble_eq_true rfl) (Nat.le_of_ble_eq_true rfl) hq3 (f_X3_pieceAt_228_snd p2 q1.2 y) ?_)
      refine mS_steps (pc' := 20) (ls' := [.ref 0, .int p1, .int p2]) (st' := [.int q3]) (mem' := (mk q1.2 y)) 1 rfl ?_
      exact mS_reti ⟨_, _, _, _, _, rfl, rfl⟩ rfl
    exact mS_none
def f_X11_isWhich (p0 : Int32) : Option Int32 := (if m_nr 1 (f_X11_in p0 (0 : Int32) (1 : Int32)) = true then (some (f_X11_in p0 (0 : Int32) (1 : Int32))) else none)
set_option maxRecDepth 20000 in
set_option maxHeartbeats 2000000 in
theorem f_X11_isWhich_snd {fm : Value} {L : Nat} {xs : Nat → Int32} (p0 : Int32) (mem : mM) : mS fm L xs (fun r : Int32 => (.int r, mem)) pg_X11_isWhich 0 (m_entry [.int p0] 1) [] mem ((f_X11_isWhich p0)) := by
  unfold f_X11_isWhich
  refine mS_steps (pc' := 0) (ls' := [.int p0]) (st' := []) (mem' := mem) 0 rfl ?_
  refine mS_steps (pc' := 3) (ls' := [.int p0]) (st' := [.int (1 : Int32), .int (0 : Int32), .int p0]) (mem' := mem) 3 rfl ?_
  refine mS_call (q := (f_X11_in p0 (0 : Int32) (1 : Int32))) 83 3 [.int p0, .int (0 : Int32), .int (1 : Int32)] [] rfl rfl rfl ⟨_, _, _, rfl, rfl⟩ (Nat.le_of_ble_eq_true rfl) (Nat.le_of_ble_eq_true rfl) rfl (f_X11_in_snd p0 (0 : Int32) (1 : Int32) mem) ?_
  refine mS_steps (pc' := 6) (ls' := [.int p0]) (st' := [.int (f_X11_in p0 (0 : Int32) (1 : Int32))]) (mem' := mem) 0 rfl ?_
  refine mS_guard (fun hz => ?_)
  exact mS_reti ⟨_, _, _, _, _, rfl, hz⟩ rfl
def f_X11_piece_L26 (a1 : Int32) (a2 : Int32) (a3 : Int32) : Nat → Int32 → Int32 → mY → Option (Int32 × mY)
  | 0, _, _, _ => none
  | n + 1, a4, a5, y => (if a5 = 0 then (if a2 = (-1 : Int32) then (some (a4, y)) else (some ((-1 : Int32), y))) else ((f_X11_lowestOf a5).bind fun q3 => ((f_X11_comes a1 q3 a3 y).bind fun q4 => (if a4 = a2 then (some (q4, y)) else (f_X11_piece_L26 a1 a2 a3 n (a4 + (1 : Int32)) (a5 &&& (q4 ^^^ (-1 : Int32))) y)))))
def f_X11_piece (p1 : Int32) (p2 : Int32) (y : mY) : Option (Int32 × mY) := ((f_X11_isWhich p1).bind fun q1 => (if q1 = 0 then (some ((-1 : Int32), y)) else (if (-1 : Int32) ≤ p2 then ((f_X11_laysNet p1 y).bind fun q2 => (f_X11_piece_L26 p1 p2 q2.1 mF (0 : Int32) q2.1 q2.2)) else (some ((-1 : Int32), y)))))
set_option maxRecDepth 20000 in
set_option maxHeartbeats 2000000 in
theorem f_X11_piece_L26_snd {fm : Value} {L : Nat} {xs : Nat → Int32} (a1 : Int32) (a2 : Int32) (a3 : Int32) (y : mY) (x : mX) : ∀ (n : Nat) (a4 : Int32) (a5 : Int32), mS fm L xs (fun r : (Int32 × mY) => (.int r.1, mk x r.2)) pg_X11_piece 26 [.ref 279, .int a1, .int a2, .int a3, .int a4, .int a5, mU] [] (mk x y) (f_X11_piece_L26 a1 a2 a3 n a4 a5 y) := by
  intro n
  induction n with
  | zero => intro a4 a5; exact mS_none
  | succ n ih =>
    intro a4 a5
    rw [f_X11_piece_L26]
    refine mS_steps (pc' := 28) (ls' := [.ref 279, .int a1, .int a2, .int a3, .int a4, .int a5, mU]) (st' := [.int a5]) (mem' := (mk x y)) 1 rfl ?_
    refine mS_if0 rfl (fun _ => ?_) (fun _ => ?_)
    · refine mS_steps (pc' := 70) (ls' := [.ref 279, .int a1, .int a2, .int a3, .int a4, .int a5, mU]) (st' := [.int (-1 : Int32), .int a2]) (mem' := (mk x y)) 2 rfl ?_
      refine mS_ic1 rfl (fun _ => ?_) (fun _ => ?_)
      · refine mS_steps (pc' := 79) (ls' := [.ref 279, .int a1, .int a2, .int a3, .int a4, .int a5, mU]) (st' := [.int a4]) (mem' := (mk x y)) 2 rfl ?_
        exact mS_reti ⟨_, _, _, _, _, rfl, rfl⟩ rfl
      · refine mS_steps (pc' := 79) (ls' := [.ref 279, .int a1, .int a2, .int a3, .int a4, .int a5, mU]) (st' := [.int (-1 : Int32)]) (mem' := (mk x y)) 1 rfl ?_
        exact mS_reti ⟨_, _, _, _, _, rfl, rfl⟩ rfl
    · refine mS_steps (pc' := 35) (ls' := [.ref 279, .int a1, .int a2, .int a3, .int a4, .int a5, mU]) (st' := [.int a5, .int a1, .ref 279]) (mem' := (mk x y)) 3 rfl ?_
      refine mS_bind (fun q3 hq3 => mS_call 145 1 [.int a5] [.int a1, .ref 279] rfl rfl rfl ⟨_, _, _, rfl, rfl⟩ (Nat.le_of_ble_eq_true rfl) (Nat.le_of_ble_eq_true rfl) hq3 (f_X11_lowestOf_snd a5 (mk x y)) ?_)
      refine mS_steps (pc' := 39) (ls' := [.ref 279, .int a1, .int a2, .int a3, .int a4, .int a5, mU]) (st' := [.int a3, .int q3, .int a1, .ref 279]) (mem' := (mk x y)) 1 rfl ?_
      refine mS_bind (fun q4 hq4 => mS_call 146 4 [.ref 279, .int a1, .int q3, .int a3] [] rfl rfl rfl ⟨_, _, _, rfl, rfl⟩ (Nat.le_of_ble_eq_true rfl) (Nat.le_of_ble_eq_true rfl) hq4 (f_X11_comes_snd a1 q3 a3 y x) ?_)
      refine mS_steps (pc' := 47) (ls' := [.ref 279, .int a1, .int a2, .int a3, .int a4, .int a5, .int q4]) (st' := [.int a2, .int a4]) (mem' := (mk x y)) 3 rfl ?_
      refine mS_ic1 rfl (fun _ => ?_) (fun _ => ?_)
      · refine mS_steps (pc' := 52) (ls' := [.ref 279, .int a1, .int a2, .int a3, .int a4, .int a5, .int q4]) (st' := [.int q4]) (mem' := (mk x y)) 1 rfl ?_
        exact mS_reti ⟨_, _, _, _, _, rfl, rfl⟩ rfl
      · refine mS_steps (pc' := 26) (ls' := [.ref 279, .int a1, .int a2, .int a3, .int (a4 + (1 : Int32)), .int (a5 &&& (q4 ^^^ (-1 : Int32))), .int q4]) (st' := []) (mem' := (mk x y)) 8 rfl ?_
        refine mS_forget [.ref 279, .int a1, .int a2, .int a3, .int (a4 + (1 : Int32)), .int (a5 &&& (q4 ^^^ (-1 : Int32))), mU] ⟨Or.inr rfl, Or.inr rfl, Or.inr rfl, Or.inr rfl, Or.inr rfl, Or.inr rfl, Or.inl rfl, trivial⟩ ?_
        exact ih (a4 + (1 : Int32)) (a5 &&& (q4 ^^^ (-1 : Int32)))
set_option maxRecDepth 20000 in
set_option maxHeartbeats 2000000 in
theorem f_X11_piece_snd {fm : Value} {L : Nat} {xs : Nat → Int32} (p1 : Int32) (p2 : Int32) (y : mY) (x : mX) : mS fm L xs (fun r : (Int32 × mY) => (.int r.1, mk x r.2)) pg_X11_piece 0 (m_entry [.ref 279, .int p1, .int p2] 7) [] (mk x y) ((f_X11_piece p1 p2 y)) := by
  unfold f_X11_piece
  refine mS_steps (pc' := 0) (ls' := [.ref 279, .int p1, .int p2, mU, mU, mU, mU]) (st' := []) (mem' := (mk x y)) 0 rfl ?_
  refine mS_steps (pc' := 1) (ls' := [.ref 279, .int p1, .int p2, mU, mU, mU, mU]) (st' := [.int p1]) (mem' := (mk x y)) 1 rfl ?_
  refine mS_bind (fun q1 hq1 => mS_call 173 1 [.int p1] [] rfl rfl rfl ⟨_, _, _, rfl, rfl⟩ (Nat.le_of_ble_eq_true rfl) (Nat.le_of_ble_eq_true rfl) hq1 (f_X11_isWhich_snd p1 (mk x y)) ?_)
  refine mS_steps (pc' := 4) (ls' := [.ref 279, .int p1, .int p2, mU, mU, mU, mU]) (st' := [.int q1]) (mem' := (mk x y)) 0 rfl ?_
  refine mS_if0 rfl (fun _ => ?_) (fun _ => ?_)
  · refine mS_steps (pc' := 13) (ls' := [.ref 279, .int p1, .int p2, mU, mU, mU, mU]) (st' := [.int (-1 : Int32)]) (mem' := (mk x y)) 1 rfl ?_
    exact mS_reti ⟨_, _, _, _, _, rfl, rfl⟩ rfl
  · refine mS_steps (pc' := 9) (ls' := [.ref 279, .int p1, .int p2, mU, mU, mU, mU]) (st' := [.int (-1 : Int32), .int p2]) (mem' := (mk x y)) 2 rfl ?_
    refine mS_ic3 rfl (fun _ => ?_) (fun _ => ?_)
    · refine mS_steps (pc' := 16) (ls' := [.ref 279, .int p1, .int p2, mU, mU, mU, mU]) (st' := [.int p1, .ref 279]) (mem' := (mk x y)) 2 rfl ?_
      refine mS_bind (fun q2 hq2 => mS_call 143 2 [.ref 279, .int p1] [] rfl rfl rfl ⟨_, _, _, rfl, rfl⟩ (Nat.le_of_ble_eq_true rfl) (Nat.le_of_ble_eq_true rfl) hq2 (f_X11_laysNet_snd p1 y x) ?_)
      refine mS_steps (pc' := 26) (ls' := [.ref 279, .int p1, .int p2, .int q2.1, .int (0 : Int32), .int q2.1, mU]) (st' := []) (mem' := (mk x q2.2)) 5 rfl ?_
      refine f_X11_piece_L26_snd p1 p2 q2.1 q2.2 x mF (0 : Int32) q2.1
    · refine mS_steps (pc' := 13) (ls' := [.ref 279, .int p1, .int p2, mU, mU, mU, mU]) (st' := [.int (-1 : Int32)]) (mem' := (mk x y)) 1 rfl ?_
      exact mS_reti ⟨_, _, _, _, _, rfl, rfl⟩ rfl
def f_X3_leastBlock_L15 (r0 : Nat) (a1 : Int32) (a3 : Int32) : Nat → Int32 → Int32 → mX → (Int32 → Option Int32) → Option Int32
  | 0, _, _, _, _ => none
  | n + 1, a2, a4, x, k74 => (if (8 : Int32) ≤ a4 then (k74 a2) else (if m_in a3 8 = true then (m_jn (fun w2 => (if w2 ≤ a1 then (f_X3_leastBlock_L15 r0 a1 a3 n a2 (a4 + (1 : Int32)) x k74) else (if a2 = 0 then (f_X3_leastBlock_L15 r0 a1 a3 n w2 (a4 + (1 : Int32)) x k74) else (if a2 ≤ w2 then (f_X3_leastBlock_L15 r0 a1 a3 n a2 (a4 + (1 : Int32)) x k74) else (f_X3_leastBlock_L15 r0 a1 a3 n w2 (a4 + (1 : Int32)) x k74))))) (fun j1 => if (f_X10_has (x.1 (r0 + 5) a3.toNatClampNeg) a4) = 0 then (j1 (0 : Int32)) else ((f_X3_blockOf r0 a3 a4 x).bind fun q3 => (j1 q3)))) else none))
def f_X3_leastBlock_L4 (r0 : Nat) (a1 : Int32) : Nat → Int32 → Int32 → mX → Option Int32
  | 0, _, _, _ => none
  | n + 1, a2, a3, x => (if (8 : Int32) ≤ a3 then (some a2) else (f_X3_leastBlock_L15 r0 a1 a3 mF a2 (a3 + (1 : Int32)) x (fun v4 => (f_X3_leastBlock_L4 r0 a1 n v4 (a3 + (1 : Int32)) x))))
def f_X3_leastBlock (r0 : Nat) (p1 : Int32) (x : mX) : Option Int32 := (f_X3_leastBlock_L4 r0 p1 mF (0 : Int32) (0 : Int32) x)
set_option maxRecDepth 20000 in
set_option maxHeartbeats 2000000 in
theorem f_X3_leastBlock_L15_222_snd {fm : Value} {L : Nat} {xs : Nat → Int32} (a1 : Int32) (a3 : Int32) (x : mX) (y : mY) (k74 : Int32 → Option Int32) (hk74 : ∀ (b2 : Int32), mS fm L xs (fun r : Int32 => (.int r, (mk x y))) pg_X3_leastBlock 74 [.ref 222, .int a1, .int b2, .int a3, mU, mU] [] (mk x y) (k74 b2)) : ∀ (n : Nat) (a2 : Int32) (a4 : Int32), mS fm L xs (fun r : Int32 => (.int r, (mk x y))) pg_X3_leastBlock 15 [.ref 222, .int a1, .int a2, .int a3, .int a4, mU] [] (mk x y) (f_X3_leastBlock_L15 222 a1 a3 n a2 a4 x k74) := by
  intro n
  induction n with
  | zero => intro a2 a4; exact mS_none
  | succ n ih =>
    intro a2 a4
    rw [f_X3_leastBlock_L15]
    refine mS_steps (pc' := 19) (ls' := [.ref 222, .int a1, .int a2, .int a3, .int a4, mU]) (st' := [.int (8 : Int32), .int a4]) (mem' := (mk x y)) 2 rfl ?_
    refine mS_ic3 rfl (fun _ => ?_) (fun _ => ?_)
    · refine mS_forget [.ref 222, .int a1, .int a2, .int a3, mU, mU] ⟨Or.inr rfl, Or.inr rfl, Or.inr rfl, Or.inr rfl, Or.inl rfl, Or.inl rfl, trivial⟩ ?_
      exact hk74 a2
    · refine mS_steps (pc' := 27) (ls' := [.ref 222, .int a1, .int a2, .int a3, .int a4, mU]) (st' := [.int a3, .ref 227]) (mem' := (mk x y)) 3 rfl ?_
      refine mS_ald (b := 0) (n := 8) (z := (x.1 (222 + 5) a3.toNatClampNeg)) rfl (by decide) rfl (by decide) rfl (fun _ => ?_)
      refine mS_steps (pc' := 30) (ls' := [.ref 222, .int a1, .int a2, .int a3, .int a4, mU]) (st' := [.int a4, .int (x.1 (222 + 5) a3.toNatClampNeg)]) (mem' := (mk x y)) 1 rfl ?_
      refine mS_call (q := (f_X10_has (x.1 (222 + 5) a3.toNatClampNeg) a4)) 57 2 [.int (x.1 (222 + 5) a3.toNatClampNeg), .int a4] [] rfl rfl rfl ⟨_, _, _, rfl, rfl⟩ (Nat.le_of_ble_eq_true rfl) (Nat.le_of_ble_eq_true rfl) rfl (f_X10_has_snd (x.1 (222 + 5) a3.toNatClampNeg) a4 (mk x y)) ?_
      refine mS_steps (pc' := 33) (ls' := [.ref 222, .int a1, .int a2, .int a3, .int a4, mU]) (st' := [.int (f_X10_has (x.1 (222 + 5) a3.toNatClampNeg) a4)]) (mem' := (mk x y)) 0 rfl ?_
      refine mS_jn (fun j => ∀ z : Int32, mS fm L xs (fun r : Int32 => (.int r, (mk x y))) pg_X3_leastBlock 47 [.ref 222, .int a1, .int a2, .int a3, .int a4, mU] [.int z] (mk x y) (j z)) ?_ ?_
      · intro z
        revert z; intro w2
        refine mS_steps (pc' := 52) (ls' := [.ref 222, .int a1, .int a2, .int a3, .int a4, .int w2]) (st' := [.int a1, .int w2]) (mem' := (mk x y)) 3 rfl ?_
        refine mS_ic5 rfl (fun _ => ?_) (fun _ => ?_)
        · refine mS_steps (pc' := 15) (ls' := [.ref 222, .int a1, .int a2, .int a3, .int (a4 + (1 : Int32)), .int w2]) (st' := []) (mem' := (mk x y)) 2 rfl ?_
          refine mS_forget [.ref 222, .int a1, .int a2, .int a3, .int (a4 + (1 : Int32)), mU] ⟨Or.inr rfl, Or.inr rfl, Or.inr rfl, Or.inr rfl, Or.inr rfl, Or.inl rfl, trivial⟩ ?_
          exact ih a2 (a4 + (1 : Int32))
        · refine mS_steps (pc' := 56) (ls' := [.ref 222, .int a1, .int a2, .int a3, .int a4, .int w2]) (st' := [.int a2]) (mem' := (mk x y)) 1 rfl ?_
          refine mS_if0 rfl (fun _ => ?_) (fun _ => ?_)
          · refine mS_steps (pc' := 15) (ls' := [.ref 222, .int a1, .int w2, .int a3, .int (a4 + (1 : Int32)), .int w2]) (st' := []) (mem' := (mk x y)) 4 rfl ?_
            refine mS_forget [.ref 222, .int a1, .int w2, .int a3, .int (a4 + (1 : Int32)), mU] ⟨Or.inr rfl, Or.inr rfl, Or.inr rfl, Or.inr rfl, Or.inr rfl, Or.inl rfl, trivial⟩ ?_
            exact ih w2 (a4 + (1 : Int32))
          · refine mS_steps (pc' := 62) (ls' := [.ref 222, .int a1, .int a2, .int a3, .int a4, .int w2]) (st' := [.int a2, .int w2]) (mem' := (mk x y)) 2 rfl ?_
            refine mS_ic3 rfl (fun _ => ?_) (fun _ => ?_)
            · refine mS_steps (pc' := 15) (ls' := [.ref 222, .int a1, .int a2, .int a3, .int (a4 + (1 : Int32)), .int w2]) (st' := []) (mem' := (mk x y)) 2 rfl ?_
              refine mS_forget [.ref 222, .int a1, .int a2, .int a3, .int (a4 + (1 : Int32)), mU] ⟨Or.inr rfl, Or.inr rfl, Or.inr rfl, Or.inr rfl, Or.inr rfl, Or.inl rfl, trivial⟩ ?_
              exact ih a2 (a4 + (1 : Int32))
            · refine mS_steps (pc' := 15) (ls' := [.ref 222, .int a1, .int w2, .int a3, .int (a4 + (1 : Int32)), .int w2]) (st' := []) (mem' := (mk x y)) 4 rfl ?_
              refine mS_forget [.ref 222, .int a1, .int w2, .int a3, .int (a4 + (1 : Int32)), mU] ⟨Or.inr rfl, Or.inr rfl, Or.inr rfl, Or.inr rfl, Or.inr rfl, Or.inl rfl, trivial⟩ ?_
              exact ih w2 (a4 + (1 : Int32))
      intro j1 hj1
      refine mS_if0 rfl (fun _ => ?_) (fun _ => ?_)
      · refine mS_steps (pc' := 47) (ls' := [.ref 222, .int a1, .int a2, .int a3, .int a4, mU]) (st' := [.int (0 : Int32)]) (mem' := (mk x y)) 1 rfl ?_
        exact hj1 (0 : Int32)
      · refine mS_steps (pc' := 40) (ls' := [.ref 222, .int a1, .int a2, .int a3, .int a4, mU]) (st' := [.int a4, .int a3, .ref 222]) (mem' := (mk x y)) 3 rfl ?_
        refine mS_bind (fun q3 hq3 => mS_call 125 3 [.ref 222, .int a3, .int a4] [] rfl rfl rfl ⟨_, _, _, rfl, rfl⟩ (Nat.le_of_ble_eq_true rfl) (Nat.le_of_ble_eq_true rfl) hq3 (f_X3_blockOf_222_snd a3 a4 x y) ?_)
        refine mS_steps (pc' := 47) (ls' := [.ref 222, .int a1, .int a2, .int a3, .int a4, mU]) (st' := [.int q3]) (mem' := (mk x y)) 1 rfl ?_
        exact hj1 q3
set_option maxRecDepth 20000 in
set_option maxHeartbeats 2000000 in
theorem f_X3_leastBlock_L4_222_snd {fm : Value} {L : Nat} {xs : Nat → Int32} (a1 : Int32) (x : mX) (y : mY) : ∀ (n : Nat) (a2 : Int32) (a3 : Int32), mS fm L xs (fun r : Int32 => (.int r, (mk x y))) pg_X3_leastBlock 4 [.ref 222, .int a1, .int a2, .int a3, mU, mU] [] (mk x y) (f_X3_leastBlock_L4 222 a1 n a2 a3 x) := by
  intro n
  induction n with
  | zero => intro a2 a3; exact mS_none
  | succ n ih =>
    intro a2 a3
    rw [f_X3_leastBlock_L4]
    refine mS_steps (pc' := 7) (ls' := [.ref 222, .int a1, .int a2, .int a3, mU, mU]) (st' := [.int (8 : Int32), .int a3]) (mem' := (mk x y)) 2 rfl ?_
    refine mS_ic3 rfl (fun _ => ?_) (fun _ => ?_)
    · refine mS_steps (pc' := 81) (ls' := [.ref 222, .int a1, .int a2, .int a3, mU, mU]) (st' := [.int a2]) (mem' := (mk x y)) 1 rfl ?_
      exact mS_reti ⟨_, _, _, _, _, rfl, rfl⟩ rfl
    · refine mS_steps (pc' := 15) (ls' := [.ref 222, .int a1, .int a2, .int a3, .int (a3 + (1 : Int32)), mU]) (st' := []) (mem' := (mk x y)) 4 rfl ?_
      refine f_X3_leastBlock_L15_222_snd a1 a3 x y _ ?_ mF a2 (a3 + (1 : Int32))
      · intro v4
        refine mS_steps (pc' := 4) (ls' := [.ref 222, .int a1, .int v4, .int (a3 + (1 : Int32)), mU, mU]) (st' := []) (mem' := (mk x y)) 2 rfl ?_
        exact ih v4 (a3 + (1 : Int32))
set_option maxRecDepth 20000 in
set_option maxHeartbeats 2000000 in
theorem f_X3_leastBlock_222_snd {fm : Value} {L : Nat} {xs : Nat → Int32} (p1 : Int32) (x : mX) (y : mY) : mS fm L xs (fun r : Int32 => (.int r, (mk x y))) pg_X3_leastBlock 0 (m_entry [.ref 222, .int p1] 6) [] (mk x y) ((f_X3_leastBlock 222 p1 x)) := by
  unfold f_X3_leastBlock
  refine mS_steps (pc' := 0) (ls' := [.ref 222, .int p1, mU, mU, mU, mU]) (st' := []) (mem' := (mk x y)) 0 rfl ?_
  refine mS_steps (pc' := 4) (ls' := [.ref 222, .int p1, .int (0 : Int32), .int (0 : Int32), mU, mU]) (st' := []) (mem' := (mk x y)) 4 rfl ?_
  refine f_X3_leastBlock_L4_222_snd p1 x y mF (0 : Int32) (0 : Int32)
set_option maxRecDepth 20000 in
set_option maxHeartbeats 2000000 in
theorem f_X3_leastBlock_L15_228_snd {fm : Value} {L : Nat} {xs : Nat → Int32} (a1 : Int32) (a3 : Int32) (x : mX) (y : mY) (k74 : Int32 → Option Int32) (hk74 : ∀ (b2 : Int32), mS fm L xs (fun r : Int32 => (.int r, (mk x y))) pg_X3_leastBlock 74 [.ref 228, .int a1, .int b2, .int a3, mU, mU] [] (mk x y) (k74 b2)) : ∀ (n : Nat) (a2 : Int32) (a4 : Int32), mS fm L xs (fun r : Int32 => (.int r, (mk x y))) pg_X3_leastBlock 15 [.ref 228, .int a1, .int a2, .int a3, .int a4, mU] [] (mk x y) (f_X3_leastBlock_L15 228 a1 a3 n a2 a4 x k74) := by
  intro n
  induction n with
  | zero => intro a2 a4; exact mS_none
  | succ n ih =>
    intro a2 a4
    rw [f_X3_leastBlock_L15]
    refine mS_steps (pc' := 19) (ls' := [.ref 228, .int a1, .int a2, .int a3, .int a4, mU]) (st' := [.int (8 : Int32), .int a4]) (mem' := (mk x y)) 2 rfl ?_
    refine mS_ic3 rfl (fun _ => ?_) (fun _ => ?_)
    · refine mS_forget [.ref 228, .int a1, .int a2, .int a3, mU, mU] ⟨Or.inr rfl, Or.inr rfl, Or.inr rfl, Or.inr rfl, Or.inl rfl, Or.inl rfl, trivial⟩ ?_
      exact hk74 a2
    · refine mS_steps (pc' := 27) (ls' := [.ref 228, .int a1, .int a2, .int a3, .int a4, mU]) (st' := [.int a3, .ref 233]) (mem' := (mk x y)) 3 rfl ?_
      refine mS_ald (b := 0) (n := 8) (z := (x.1 (228 + 5) a3.toNatClampNeg)) rfl (by decide) rfl (by decide) rfl (fun _ => ?_)
      refine mS_steps (pc' := 30) (ls' := [.ref 228, .int a1, .int a2, .int a3, .int a4, mU]) (st' := [.int a4, .int (x.1 (228 + 5) a3.toNatClampNeg)]) (mem' := (mk x y)) 1 rfl ?_
      refine mS_call (q := (f_X10_has (x.1 (228 + 5) a3.toNatClampNeg) a4)) 57 2 [.int (x.1 (228 + 5) a3.toNatClampNeg), .int a4] [] rfl rfl rfl ⟨_, _, _, rfl, rfl⟩ (Nat.le_of_ble_eq_true rfl) (Nat.le_of_ble_eq_true rfl) rfl (f_X10_has_snd (x.1 (228 + 5) a3.toNatClampNeg) a4 (mk x y)) ?_
      refine mS_steps (pc' := 33) (ls' := [.ref 228, .int a1, .int a2, .int a3, .int a4, mU]) (st' := [.int (f_X10_has (x.1 (228 + 5) a3.toNatClampNeg) a4)]) (mem' := (mk x y)) 0 rfl ?_
      refine mS_jn (fun j => ∀ z : Int32, mS fm L xs (fun r : Int32 => (.int r, (mk x y))) pg_X3_leastBlock 47 [.ref 228, .int a1, .int a2, .int a3, .int a4, mU] [.int z] (mk x y) (j z)) ?_ ?_
      · intro z
        revert z; intro w2
        refine mS_steps (pc' := 52) (ls' := [.ref 228, .int a1, .int a2, .int a3, .int a4, .int w2]) (st' := [.int a1, .int w2]) (mem' := (mk x y)) 3 rfl ?_
        refine mS_ic5 rfl (fun _ => ?_) (fun _ => ?_)
        · refine mS_steps (pc' := 15) (ls' := [.ref 228, .int a1, .int a2, .int a3, .int (a4 + (1 : Int32)), .int w2]) (st' := []) (mem' := (mk x y)) 2 rfl ?_
          refine mS_forget [.ref 228, .int a1, .int a2, .int a3, .int (a4 + (1 : Int32)), mU] ⟨Or.inr rfl, Or.inr rfl, Or.inr rfl, Or.inr rfl, Or.inr rfl, Or.inl rfl, trivial⟩ ?_
          exact ih a2 (a4 + (1 : Int32))
        · refine mS_steps (pc' := 56) (ls' := [.ref 228, .int a1, .int a2, .int a3, .int a4, .int w2]) (st' := [.int a2]) (mem' := (mk x y)) 1 rfl ?_
          refine mS_if0 rfl (fun _ => ?_) (fun _ => ?_)
          · refine mS_steps (pc' := 15) (ls' := [.ref 228, .int a1, .int w2, .int a3, .int (a4 + (1 : Int32)), .int w2]) (st' := []) (mem' := (mk x y)) 4 rfl ?_
            refine mS_forget [.ref 228, .int a1, .int w2, .int a3, .int (a4 + (1 : Int32)), mU] ⟨Or.inr rfl, Or.inr rfl, Or.inr rfl, Or.inr rfl, Or.inr rfl, Or.inl rfl, trivial⟩ ?_
            exact ih w2 (a4 + (1 : Int32))
          · refine mS_steps (pc' := 62) (ls' := [.ref 228, .int a1, .int a2, .int a3, .int a4, .int w2]) (st' := [.int a2, .int w2]) (mem' := (mk x y)) 2 rfl ?_
            refine mS_ic3 rfl (fun _ => ?_) (fun _ => ?_)
            · refine mS_steps (pc' := 15) (ls' := [.ref 228, .int a1, .int a2, .int a3, .int (a4 + (1 : Int32)), .int w2]) (st' := []) (mem' := (mk x y)) 2 rfl ?_
              refine mS_forget [.ref 228, .int a1, .int a2, .int a3, .int (a4 + (1 : Int32)), mU] ⟨Or.inr rfl, Or.inr rfl, Or.inr rfl, Or.inr rfl, Or.inr rfl, Or.inl rfl, trivial⟩ ?_
              exact ih a2 (a4 + (1 : Int32))
            · refine mS_steps (pc' := 15) (ls' := [.ref 228, .int a1, .int w2, .int a3, .int (a4 + (1 : Int32)), .int w2]) (st' := []) (mem' := (mk x y)) 4 rfl ?_
              refine mS_forget [.ref 228, .int a1, .int w2, .int a3, .int (a4 + (1 : Int32)), mU] ⟨Or.inr rfl, Or.inr rfl, Or.inr rfl, Or.inr rfl, Or.inr rfl, Or.inl rfl, trivial⟩ ?_
              exact ih w2 (a4 + (1 : Int32))
      intro j1 hj1
      refine mS_if0 rfl (fun _ => ?_) (fun _ => ?_)
      · refine mS_steps (pc' := 47) (ls' := [.ref 228, .int a1, .int a2, .int a3, .int a4, mU]) (st' := [.int (0 : Int32)]) (mem' := (mk x y)) 1 rfl ?_
        exact hj1 (0 : Int32)
      · refine mS_steps (pc' := 40) (ls' := [.ref 228, .int a1, .int a2, .int a3, .int a4, mU]) (st' := [.int a4, .int a3, .ref 228]) (mem' := (mk x y)) 3 rfl ?_
        refine mS_bind (fun q3 hq3 => mS_call 125 3 [.ref 228, .int a3, .int a4] [] rfl rfl rfl ⟨_, _, _, rfl, rfl⟩ (Nat.le_of_ble_eq_true rfl) (Nat.le_of_ble_eq_true rfl) hq3 (f_X3_blockOf_228_snd a3 a4 x y) ?_)
        refine mS_steps (pc' := 47) (ls' := [.ref 228, .int a1, .int a2, .int a3, .int a4, mU]) (st' := [.int q3]) (mem' := (mk x y)) 1 rfl ?_
        exact hj1 q3
set_option maxRecDepth 20000 in
set_option maxHeartbeats 2000000 in
theorem f_X3_leastBlock_L4_228_snd {fm : Value} {L : Nat} {xs : Nat → Int32} (a1 : Int32) (x : mX) (y : mY) : ∀ (n : Nat) (a2 : Int32) (a3 : Int32), mS fm L xs (fun r : Int32 => (.int r, (mk x y))) pg_X3_leastBlock 4 [.ref 228, .int a1, .int a2, .int a3, mU, mU] [] (mk x y) (f_X3_leastBlock_L4 228 a1 n a2 a3 x) := by
  intro n
  induction n with
  | zero => intro a2 a3; exact mS_none
  | succ n ih =>
    intro a2 a3
    rw [f_X3_leastBlock_L4]
    refine mS_steps (pc' := 7) (ls' := [.ref 228, .int a1, .int a2, .int a3, mU, mU]) (st' := [.int (8 : Int32), .int a3]) (mem' := (mk x y)) 2 rfl ?_
    refine mS_ic3 rfl (fun _ => ?_) (fun _ => ?_)
    · refine mS_steps (pc' := 81) (ls' := [.ref 228, .int a1, .int a2, .int a3, mU, mU]) (st' := [.int a2]) (mem' := (mk x y)) 1 rfl ?_
      exact mS_reti ⟨_, _, _, _, _, rfl, rfl⟩ rfl
    · refine mS_steps (pc' := 15) (ls' := [.ref 228, .int a1, .int a2, .int a3, .int (a3 + (1 : Int32)), mU]) (st' := []) (mem' := (mk x y)) 4 rfl ?_
      refine f_X3_leastBlock_L15_228_snd a1 a3 x y _ ?_ mF a2 (a3 + (1 : Int32))
      · intro v4
        refine mS_steps (pc' := 4) (ls' := [.ref 228, .int a1, .int v4, .int (a3 + (1 : Int32)), mU, mU]) (st' := []) (mem' := (mk x y)) 2 rfl ?_
        exact ih v4 (a3 + (1 : Int32))
set_option maxRecDepth 20000 in
set_option maxHeartbeats 2000000 in
theorem f_X3_leastBlock_228_snd {fm : Value} {L : Nat} {xs : Nat → Int32} (p1 : Int32) (x : mX) (y : mY) : mS fm L xs (fun r : Int32 => (.int r, (mk x y))) pg_X3_leastBlock 0 (m_entry [.ref 228, .int p1] 6) [] (mk x y) ((f_X3_leastBlock 228 p1 x)) := by
  unfold f_X3_leastBlock
  refine mS_steps (pc' := 0) (ls' := [.ref 228, .int p1, mU, mU, mU, mU]) (st' := []) (mem' := (mk x y)) 0 rfl ?_
  refine mS_steps (pc' := 4) (ls' := [.ref 228, .int p1, .int (0 : Int32), .int (0 : Int32), mU, mU]) (st' := []) (mem' := (mk x y)) 4 rfl ?_
  refine f_X3_leastBlock_L4_228_snd p1 x y mF (0 : Int32) (0 : Int32)
def f_X3_blockAt_L11 (r0 : Nat) (a1 : Int32) : Nat → Int32 → Int32 → Int32 → mX → Option Int32
  | 0, _, _, _, _ => none
  | n + 1, a2, a3, a4, x => (if (8 : Int32) ≤ a4 then (if a1 = (-1 : Int32) then (some a2) else (some (-1 : Int32))) else (if a3 = 0 then (if a1 = (-1 : Int32) then (some a2) else (some (-1 : Int32))) else (if a2 = a1 then (some a3) else ((f_X3_leastBlock r0 a3 x).bind fun q2 => (f_X3_blockAt_L11 r0 a1 n (a2 + (1 : Int32)) q2 (a4 + (1 : Int32)) x)))))
def f_X3_blockAt (r0 : Nat) (p1 : Int32) (x : mX) : Option Int32 := ((f_X3_leastBlock r0 (0 : Int32) x).bind fun q1 => (f_X3_blockAt_L11 r0 p1 mF (0 : Int32) q1 (0 : Int32) x))
set_option maxRecDepth 20000 in
set_option maxHeartbeats 2000000 in
theorem f_X3_blockAt_L11_222_snd {fm : Value} {L : Nat} {xs : Nat → Int32} (a1 : Int32) (x : mX) (y : mY) : ∀ (n : Nat) (a2 : Int32) (a3 : Int32) (a4 : Int32), mS fm L xs (fun r : Int32 => (.int r, (mk x y))) pg_X3_blockAt 11 [.ref 222, .int a1, .int a2, .int a3, .int a4] [] (mk x y) (f_X3_blockAt_L11 222 a1 n a2 a3 a4 x) := by
  intro n
  induction n with
  | zero => intro a2 a3 a4; exact mS_none
  | succ n ih =>
    intro a2 a3 a4
    rw [f_X3_blockAt_L11]
    refine mS_steps (pc' := 15) (ls' := [.ref 222, .int a1, .int a2, .int a3, .int a4]) (st' := [.int (8 : Int32), .int a4]) (mem' := (mk x y)) 2 rfl ?_
    refine mS_ic3 rfl (fun _ => ?_) (fun _ => ?_)
    · refine mS_steps (pc' := 46) (ls' := [.ref 222, .int a1, .int a2, .int a3, .int a4]) (st' := [.int (-1 : Int32), .int a1]) (mem' := (mk x y)) 2 rfl ?_
      refine mS_ic1 rfl (fun _ => ?_) (fun _ => ?_)
      · refine mS_steps (pc' := 54) (ls' := [.ref 222, .int a1, .int a2, .int a3, .int a4]) (st' := [.int a2]) (mem' := (mk x y)) 2 rfl ?_
        exact mS_reti ⟨_, _, _, _, _, rfl, rfl⟩ rfl
      · refine mS_steps (pc' := 54) (ls' := [.ref 222, .int a1, .int a2, .int a3, .int a4]) (st' := [.int (-1 : Int32)]) (mem' := (mk x y)) 1 rfl ?_
        exact mS_reti ⟨_, _, _, _, _, rfl, rfl⟩ rfl
    · refine mS_steps (pc' := 19) (ls' := [.ref 222, .int a1, .int a2, .int a3, .int a4]) (st' := [.int a3]) (mem' := (mk x y)) 1 rfl ?_
      refine mS_if0 rfl (fun _ => ?_) (fun _ => ?_)
      · refine mS_steps (pc' := 46) (ls' := [.ref 222, .int a1, .int a2, .int a3, .int a4]) (st' := [.int (-1 : Int32), .int a1]) (mem' := (mk x y)) 2 rfl ?_
        refine mS_ic1 rfl (fun _ => ?_) (fun _ => ?_)
        · refine mS_steps (pc' := 54) (ls' := [.ref 222, .int a1, .int a2, .int a3, .int a4]) (st' := [.int a2]) (mem' := (mk x y)) 2 rfl ?_
          exact mS_reti ⟨_, _, _, _, _, rfl, rfl⟩ rfl
        · refine mS_steps (pc' := 54) (ls' := [.ref 222, .int a1, .int a2, .int a3, .int a4]) (st' := [.int (-1 : Int32)]) (mem' := (mk x y)) 1 rfl ?_
          exact mS_reti ⟨_, _, _, _, _, rfl, rfl⟩ rfl
      · refine mS_steps (pc' := 24) (ls' := [.ref 222, .int a1, .int a2, .int a3, .int a4]) (st' := [.int a1, .int a2]) (mem' := (mk x y)) 2 rfl ?_
        refine mS_ic1 rfl (fun _ => ?_) (fun _ => ?_)
        · refine mS_steps (pc' := 28) (ls' := [.ref 222, .int a1, .int a2, .int a3, .int a4]) (st' := [.int a3]) (mem' := (mk x y)) 1 rfl ?_
          exact mS_reti ⟨_, _, _, _, _, rfl, rfl⟩ rfl
        · refine mS_steps (pc' := 34) (ls' := [.ref 222, .int a1, .int (a2 + (1 : Int32)), .int a3, .int a4]) (st' := [.int a3, .ref 222]) (mem' := (mk x y)) 3 rfl ?_
          refine mS_bind (fun q2 hq2 => mS_call 175 2 [.ref 222, .int a3] [] rfl rfl rfl ⟨_, _, _, rfl, rfl⟩ (Nat.le_of_ble_eq_true rfl) (Nat.le_of_ble_eq_true rfl) hq2 (f_X3_leastBlock_222_snd a3 x y) ?_)
          refine mS_steps (pc' := 11) (ls' := [.ref 222, .int a1, .int (a2 + (1 : Int32)), .int q2, .int (a4 + (1 : Int32))]) (st' := []) (mem' := (mk x y)) 3 rfl ?_
          exact ih (a2 + (1 : Int32)) q2 (a4 + (1 : Int32))
set_option maxRecDepth 20000 in
set_option maxHeartbeats 2000000 in
theorem f_X3_blockAt_222_snd {fm : Value} {L : Nat} {xs : Nat → Int32} (p1 : Int32) (x : mX) (y : mY) : mS fm L xs (fun r : Int32 => (.int r, (mk x y))) pg_X3_blockAt 0 (m_entry [.ref 222, .int p1] 5) [] (mk x y) ((f_X3_blockAt 222 p1 x)) := by
  unfold f_X3_blockAt
  refine mS_steps (pc' := 0) (ls' := [.ref 222, .int p1, mU, mU, mU]) (st' := []) (mem' := (mk x y)) 0 rfl ?_
  refine mS_steps (pc' := 4) (ls' := [.ref 222, .int p1, .int (0 : Int32), mU, mU]) (st' := [.int (0 : Int32), .ref 222]) (mem' := (mk x y)) 4 rfl ?_
  refine mS_bind (fun q1 hq1 => mS_call 175 2 [.ref 222, .int (0 : Int32)] [] rfl rfl rfl ⟨_, _, _, rfl, rfl⟩ (Nat.le_of_ble_eq_true rfl) (Nat.le_of_ble_eq_true rfl) hq1 (f_X3_leastBlock_222_snd (0 : Int32) x y) ?_)
  refine mS_steps (pc' := 11) (ls' := [.ref 222, .int p1, .int (0 : Int32), .int q1, .int (0 : Int32)]) (st' := []) (mem' := (mk x y)) 3 rfl ?_
  refine f_X3_blockAt_L11_222_snd p1 x y mF (0 : Int32) q1 (0 : Int32)
set_option maxRecDepth 20000 in
set_option maxHeartbeats 2000000 in
theorem f_X3_blockAt_L11_228_snd {fm : Value} {L : Nat} {xs : Nat → Int32} (a1 : Int32) (x : mX) (y : mY) : ∀ (n : Nat) (a2 : Int32) (a3 : Int32) (a4 : Int32), mS fm L xs (fun r : Int32 => (.int r, (mk x y))) pg_X3_blockAt 11 [.ref 228, .int a1, .int a2, .int a3, .int a4] [] (mk x y) (f_X3_blockAt_L11 228 a1 n a2 a3 a4 x) := by
  intro n
  induction n with
  | zero => intro a2 a3 a4; exact mS_none
  | succ n ih =>
    intro a2 a3 a4
    rw [f_X3_blockAt_L11]
    refine mS_steps (pc' := 15) (ls' := [.ref 228, .int a1, .int a2, .int a3, .int a4]) (st' := [.int (8 : Int32), .int a4]) (mem' := (mk x y)) 2 rfl ?_
    refine mS_ic3 rfl (fun _ => ?_) (fun _ => ?_)
    · refine mS_steps (pc' := 46) (ls' := [.ref 228, .int a1, .int a2, .int a3, .int a4]) (st' := [.int (-1 : Int32), .int a1]) (mem' := (mk x y)) 2 rfl ?_
      refine mS_ic1 rfl (fun _ => ?_) (fun _ => ?_)
      · refine mS_steps (pc' := 54) (ls' := [.ref 228, .int a1, .int a2, .int a3, .int a4]) (st' := [.int a2]) (mem' := (mk x y)) 2 rfl ?_
        exact mS_reti ⟨_, _, _, _, _, rfl, rfl⟩ rfl
      · refine mS_steps (pc' := 54) (ls' := [.ref 228, .int a1, .int a2, .int a3, .int a4]) (st' := [.int (-1 : Int32)]) (mem' := (mk x y)) 1 rfl ?_
        exact mS_reti ⟨_, _, _, _, _, rfl, rfl⟩ rfl
    · refine mS_steps (pc' := 19) (ls' := [.ref 228, .int a1, .int a2, .int a3, .int a4]) (st' := [.int a3]) (mem' := (mk x y)) 1 rfl ?_
      refine mS_if0 rfl (fun _ => ?_) (fun _ => ?_)
      · refine mS_steps (pc' := 46) (ls' := [.ref 228, .int a1, .int a2, .int a3, .int a4]) (st' := [.int (-1 : Int32), .int a1]) (mem' := (mk x y)) 2 rfl ?_
        refine mS_ic1 rfl (fun _ => ?_) (fun _ => ?_)
        · refine mS_steps (pc' := 54) (ls' := [.ref 228, .int a1, .int a2, .int a3, .int a4]) (st' := [.int a2]) (mem' := (mk x y)) 2 rfl ?_
          exact mS_reti ⟨_, _, _, _, _, rfl, rfl⟩ rfl
        · refine mS_steps (pc' := 54) (ls' := [.ref 228, .int a1, .int a2, .int a3, .int a4]) (st' := [.int (-1 : Int32)]) (mem' := (mk x y)) 1 rfl ?_
          exact mS_reti ⟨_, _, _, _, _, rfl, rfl⟩ rfl
      · refine mS_steps (pc' := 24) (ls' := [.ref 228, .int a1, .int a2, .int a3, .int a4]) (st' := [.int a1, .int a2]) (mem' := (mk x y)) 2 rfl ?_
        refine mS_ic1 rfl (fun _ => ?_) (fun _ => ?_)
        · refine mS_steps (pc' := 28) (ls' := [.ref 228, .int a1, .int a2, .int a3, .int a4]) (st' := [.int a3]) (mem' := (mk x y)) 1 rfl ?_
          exact mS_reti ⟨_, _, _, _, _, rfl, rfl⟩ rfl
        · refine mS_steps (pc' := 34) (ls' := [.ref 228, .int a1, .int (a2 + (1 : Int32)), .int a3, .int a4]) (st' := [.int a3, .ref 228]) (mem' := (mk x y)) 3 rfl ?_
          refine mS_bind (fun q2 hq2 => mS_call 175 2 [.ref 228, .int a3] [] rfl rfl rfl ⟨_, _, _, rfl, rfl⟩ (Nat.le_of_ble_eq_true rfl) (Nat.le_of_ble_eq_true rfl) hq2 (f_X3_leastBlock_228_snd a3 x y) ?_)
          refine mS_steps (pc' := 11) (ls' := [.ref 228, .int a1, .int (a2 + (1 : Int32)), .int q2, .int (a4 + (1 : Int32))]) (st' := []) (mem' := (mk x y)) 3 rfl ?_
          exact ih (a2 + (1 : Int32)) q2 (a4 + (1 : Int32))
set_option maxRecDepth 20000 in
set_option maxHeartbeats 2000000 in
theorem f_X3_blockAt_228_snd {fm : Value} {L : Nat} {xs : Nat → Int32} (p1 : Int32) (x : mX) (y : mY) : mS fm L xs (fun r : Int32 => (.int r, (mk x y))) pg_X3_blockAt 0 (m_entry [.ref 228, .int p1] 5) [] (mk x y) ((f_X3_blockAt 228 p1 x)) := by
  unfold f_X3_blockAt
  refine mS_steps (pc' := 0) (ls' := [.ref 228, .int p1, mU, mU, mU]) (st' := []) (mem' := (mk x y)) 0 rfl ?_
  refine mS_steps (pc' := 4) (ls' := [.ref 228, .int p1, .int (0 : Int32), mU, mU]) (st' := [.int (0 : Int32), .ref 228]) (mem' := (mk x y)) 4 rfl ?_
  refine mS_bind (fun q1 hq1 => mS_call 175 2 [.ref 228, .int (0 : Int32)] [] rfl rfl rfl ⟨_, _, _, rfl, rfl⟩ (Nat.le_of_ble_eq_true rfl) (Nat.le_of_ble_eq_true rfl) hq1 (f_X3_leastBlock_228_snd (0 : Int32) x y) ?_)
  refine mS_steps (pc' := 11) (ls' := [.ref 228, .int p1, .int (0 : Int32), .int q1, .int (0 : Int32)]) (st' := []) (mem' := (mk x y)) 3 rfl ?_
  refine f_X3_blockAt_L11_228_snd p1 x y mF (0 : Int32) q1 (0 : Int32)
def f_X10_block (p1 : Int32) (p2 : Int32) (x : mX) : Option (Int32 × mX) := (if (f_X10_isNet p1) = 0 then (some ((-1 : Int32), x)) else ((f_X10_netOf p1 x).bind fun q1 => (if q1.1 = 222 then ((f_X3_blockAt 222 p2 q1.2).bind fun q2 => (some (q2, q1.2))) else (if q1.1 = 228 then ((f_X3_blockAt 228 p2 q1.2).bind fun q3 => (some (q3, q1.2))) else none))))
set_option maxRecDepth 20000 in
set_option maxHeartbeats 2000000 in
theorem f_X10_block_snd {fm : Value} {L : Nat} {xs : Nat → Int32} (p1 : Int32) (p2 : Int32) (x : mX) (y : mY) : mS fm L xs (fun r : (Int32 × mX) => (.int r.1, mk r.2 y)) pg_X10_block 0 (m_entry [.ref 0, .int p1, .int p2] 3) [] (mk x y) ((f_X10_block p1 p2 x)) := by
  unfold f_X10_block
  refine mS_steps (pc' := 0) (ls' := [.ref 0, .int p1, .int p2]) (st' := []) (mem' := (mk x y)) 0 rfl ?_
  refine mS_steps (pc' := 1) (ls' := [.ref 0, .int p1, .int p2]) (st' := [.int p1]) (mem' := (mk x y)) 1 rfl ?_
  refine mS_call (q := (f_X10_isNet p1)) 166 1 [.int p1] [] rfl rfl rfl ⟨_, _, _, rfl, rfl⟩ (Nat.le_of_ble_eq_true rfl) (Nat.le_of_ble_eq_true rfl) rfl (f_X10_isNet_snd p1 (mk x y)) ?_
  refine mS_steps (pc' := 4) (ls' := [.ref 0, .int p1, .int p2]) (st' := [.int (f_X10_isNet p1)]) (mem' := (mk x y)) 0 rfl ?_
  refine mS_if0 rfl (fun _ => ?_) (fun _ => ?_)
  · refine mS_steps (pc' := 20) (ls' := [.ref 0, .int p1, .int p2]) (st' := [.int (-1 : Int32)]) (mem' := (mk x y)) 1 rfl ?_
    exact mS_reti ⟨_, _, _, _, _, rfl, rfl⟩ rfl
  · refine mS_steps (pc' := 9) (ls' := [.ref 0, .int p1, .int p2]) (st' := [.int p1, .ref 0]) (mem' := (mk x y)) 2 rfl ?_
    refine mS_bind (fun q1 hq1 => mS_call 169 2 [.ref 0, .int p1] [] rfl rfl rfl ⟨_, _, _, rfl, rfl⟩ (Nat.le_of_ble_eq_true rfl) (Nat.le_of_ble_eq_true rfl) hq1 (f_X10_netOf_snd p1 x y) ?_)
    refine mS_steps (pc' := 13) (ls' := [.ref 0, .int p1, .int p2]) (st' := [.int p2, .ref q1.1]) (mem' := (mk q1.2 y)) 1 rfl ?_
    refine mS_ite (fun hc => ?_) (fun _ => ?_)
    · rw [hc]
      refine mS_steps (pc' := 13) (ls' := [.ref 0, .int p1, .int p2]) (st' := [.int p2, .ref 222]) (mem' := (mk q1.2 y)) 0 rfl ?_
      refine mS_bind (fun q2 hq2 => mS_call 176 2 [.ref 222, .int p2] [] rfl rfl rfl ⟨_, _, _, rfl, rfl⟩ (Nat.le_of_ble_eq_true rfl) (Nat.le_of_ble_eq_true rfl) hq2 (f_X3_blockAt_222_snd p2 q1.2 y) ?_)
      refine mS_steps (pc' := 20) (ls' := [.ref 0, .int p1, .int p2]) (st' := [.int q2]) (mem' := (mk q1.2 y)) 1 rfl ?_
      exact mS_reti ⟨_, _, _, _, _, rfl, rfl⟩ rfl
    refine mS_ite (fun hc => ?_) (fun _ => ?_)
    · rw [hc]
      refine mS_steps (pc' := 13) (ls' := [.ref 0, .int p1, .int p2]) (st' := [.int p2, .ref 228]) (mem' := (mk q1.2 y)) 0 rfl ?_
      refine mS_bind (fun q3 hq3 => mS_call 176 2 [.ref 228, .int p2] [] rfl rfl rfl ⟨_, _, _, rfl, rfl⟩ (Nat.le_of_ble_eq_true rfl) (Nat.le_of_ble_eq_true rfl) hq3 (f_X3_blockAt_228_snd p2 q1.2 y) ?_)
      refine mS_steps (pc' := 20) (ls' := [.ref 0, .int p1, .int p2]) (st' := [.int q3]) (mem' := (mk q1.2 y)) 1 rfl ?_
      exact mS_reti ⟨_, _, _, _, _, rfl, rfl⟩ rfl
    exact mS_none
def f_X11_block (p1 : Int32) (p2 : Int32) (y : mY) : Option (Int32 × mY) := ((f_X11_isWhich p1).bind fun q1 => (if q1 = 0 then (some ((-1 : Int32), y)) else ((f_X11_laysNet p1 y).bind fun q2 => ((f_X11_laysBlocks p1 q2.1 q2.2).bind fun q3 => (if p2 = (-1 : Int32) then (some ((q3.1 279 34), q3)) else (if (f_X11_in p2 (0 : Int32) ((q3.1 279 34) - (1 : Int32))) = 0 then (some ((-1 : Int32), q3)) else (if m_in p2 28 = true then (some ((q3.1 295 p2.toNatClampNeg), q3)) else none)))))))
set_option maxRecDepth 20000 in
set_option maxHeartbeats 2000000 in
theorem f_X11_block_snd {fm : Value} {L : Nat} {xs : Nat → Int32} (p1 : Int32) (p2 : Int32) (y : mY) (x : mX) : mS fm L xs (fun r : (Int32 × mY) => (.int r.1, mk x r.2)) pg_X11_block 0 (m_entry [.ref 279, .int p1, .int p2] 3) [] (mk x y) ((f_X11_block p1 p2 y)) := by
  unfold f_X11_block
  refine mS_steps (pc' := 0) (ls' := [.ref 279, .int p1, .int p2]) (st' := []) (mem' := (mk x y)) 0 rfl ?_
  refine mS_steps (pc' := 1) (ls' := [.ref 279, .int p1, .int p2]) (st' := [.int p1]) (mem' := (mk x y)) 1 rfl ?_
  refine mS_bind (fun q1 hq1 => mS_call 173 1 [.int p1] [] rfl rfl rfl ⟨_, _, _, rfl, rfl⟩ (Nat.le_of_ble_eq_true rfl) (Nat.le_of_ble_eq_true rfl) hq1 (f_X11_isWhich_snd p1 (mk x y)) ?_)
  refine mS_steps (pc' := 4) (ls' := [.ref 279, .int p1, .int p2]) (st' := [.int q1]) (mem' := (mk x y)) 0 rfl ?_
  refine mS_if1 rfl (fun _ => ?_) (fun _ => ?_)
  · refine mS_steps (pc' := 8) (ls' := [.ref 279, .int p1, .int p2]) (st' := [.int (-1 : Int32)]) (mem' := (mk x y)) 1 rfl ?_
    exact mS_reti ⟨_, _, _, _, _, rfl, rfl⟩ rfl
  · refine mS_steps (pc' := 13) (ls' := [.ref 279, .int p1, .int p2]) (st' := [.int p1, .ref 279, .int p1, .ref 279]) (mem' := (mk x y)) 4 rfl ?_
    refine mS_bind (fun q2 hq2 => mS_call 143 2 [.ref 279, .int p1] [.int p1, .ref 279] rfl rfl rfl ⟨_, _, _, rfl, rfl⟩ (Nat.le_of_ble_eq_true rfl) (Nat.le_of_ble_eq_true rfl) hq2 (f_X11_laysNet_snd p1 y x) ?_)
    refine mS_steps (pc' := 16) (ls' := [.ref 279, .int p1, .int p2]) (st' := [.int q2.1, .int p1, .ref 279]) (mem' := (mk x q2.2)) 0 rfl ?_
    refine mS_bind (fun q3 hq3 => mS_call 149 3 [.ref 279, .int p1, .int q2.1] [] rfl rfl rfl ⟨_, _, _, rfl, rfl⟩ (Nat.le_of_ble_eq_true rfl) (Nat.le_of_ble_eq_true rfl) hq3 (f_X11_laysBlocks_snd p1 q2.1 q2.2 x) ?_)
    refine mS_steps (pc' := 21) (ls' := [.ref 279, .int p1, .int p2]) (st' := [.int (-1 : Int32), .int p2]) (mem' := (mk x q3)) 2 rfl ?_
    refine mS_ic1 rfl (fun _ => ?_) (fun _ => ?_)
    · refine mS_steps (pc' := 55) (ls' := [.ref 279, .int p1, .int p2]) (st' := [.int (q3.1 279 34)]) (mem' := (mk x q3)) 3 rfl ?_
      exact mS_reti ⟨_, _, _, _, _, rfl, rfl⟩ rfl
    · refine mS_steps (pc' := 39) (ls' := [.ref 279, .int p1, .int p2]) (st' := [.int ((q3.1 279 34) - (1 : Int32)), .int (0 : Int32), .int p2]) (mem' := (mk x q3)) 6 rfl ?_
      refine mS_call (q := (f_X11_in p2 (0 : Int32) ((q3.1 279 34) - (1 : Int32)))) 83 3 [.int p2, .int (0 : Int32), .int ((q3.1 279 34) - (1 : Int32))] [] rfl rfl rfl ⟨_, _, _, rfl, rfl⟩ (Nat.le_of_ble_eq_true rfl) (Nat.le_of_ble_eq_true rfl) rfl (f_X11_in_snd p2 (0 : Int32) ((q3.1 279 34) - (1 : Int32)) (mk x q3)) ?_
      refine mS_steps (pc' := 42) (ls' := [.ref 279, .int p1, .int p2]) (st' := [.int (f_X11_in p2 (0 : Int32) ((q3.1 279 34) - (1 : Int32)))]) (mem' := (mk x q3)) 0 rfl ?_
      refine mS_if0 rfl (fun _ => ?_) (fun _ => ?_)
      · refine mS_steps (pc' := 55) (ls' := [.ref 279, .int p1, .int p2]) (st' := [.int (-1 : Int32)]) (mem' := (mk x q3)) 1 rfl ?_
        exact mS_reti ⟨_, _, _, _, _, rfl, rfl⟩ rfl
      · refine mS_steps (pc' := 50) (ls' := [.ref 279, .int p1, .int p2]) (st' := [.int p2, .ref 295]) (mem' := (mk x q3)) 3 rfl ?_
        refine mS_ald (b := 0) (n := 28) (z := (q3.1 295 p2.toNatClampNeg)) rfl (by decide) rfl (by decide) rfl (fun _ => ?_)
        refine mS_steps (pc' := 55) (ls' := [.ref 279, .int p1, .int p2]) (st' := [.int (q3.1 295 p2.toNatClampNeg)]) (mem' := (mk x q3)) 1 rfl ?_
        exact mS_reti ⟨_, _, _, _, _, rfl, rfl⟩ rfl
def f_X3_cutPosts_L4 (r0 : Nat) : Nat → Int32 → Int32 → mX → Option Int32
  | 0, _, _, _ => none
  | n + 1, a1, a2, x => (if (8 : Int32) ≤ a2 then (some a1) else (if m_in a2 8 = true then ((f_X10_lowest (x.1 (r0 + 1) a2.toNatClampNeg)).bind fun q1 => (if q1 = (-1 : Int32) then (f_X3_cutPosts_L4 r0 n a1 (a2 + (1 : Int32)) x) else (if m_in a2 8 = true then ((f_X3_without r0 a2 q1 x).bind fun q2 => (if ((x.1 (r0 + 1) a2.toNatClampNeg) &&& (q2 ^^^ (-1 : Int32))) = 0 then (f_X3_cutPosts_L4 r0 n a1 (a2 + (1 : Int32)) x) else (f_X3_cutPosts_L4 r0 n (a1 ||| ((1 : Int32) <<< (a2 &&& 31))) (a2 + (1 : Int32)) x))) else none))) else none))
def f_X3_cutPosts (r0 : Nat) (x : mX) : Option Int32 := (f_X3_cutPosts_L4 r0 mF (0 : Int32) (0 : Int32) x)
set_option maxRecDepth 20000 in
set_option maxHeartbeats 2000000 in
theorem f_X3_cutPosts_L4_222_snd {fm : Value} {L : Nat} {xs : Nat → Int32} (x : mX) (y : mY) : ∀ (n : Nat) (a1 : Int32) (a2 : Int32), mS fm L xs (fun r : Int32 => (.int r, (mk x y))) pg_X3_cutPosts 4 [.ref 222, .int a1, .int a2, mU] [] (mk x y) (f_X3_cutPosts_L4 222 n a1 a2 x) := by
  intro n
  induction n with
  | zero => intro a1 a2; exact mS_none
  | succ n ih =>
    intro a1 a2
    rw [f_X3_cutPosts_L4]
    refine mS_steps (pc' := 7) (ls' := [.ref 222, .int a1, .int a2, mU]) (st' := [.int (8 : Int32), .int a2]) (mem' := (mk x y)) 2 rfl ?_
    refine mS_ic3 rfl (fun _ => ?_) (fun _ => ?_)
    · refine mS_steps (pc' := 56) (ls' := [.ref 222, .int a1, .int a2, mU]) (st' := [.int a1]) (mem' := (mk x y)) 1 rfl ?_
      exact mS_reti ⟨_, _, _, _, _, rfl, rfl⟩ rfl
    · refine mS_steps (pc' := 15) (ls' := [.ref 222, .int a1, .int a2, mU]) (st' := [.int a2, .ref 223]) (mem' := (mk x y)) 3 rfl ?_
      refine mS_ald (b := 0) (n := 8) (z := (x.1 (222 + 1) a2.toNatClampNeg)) rfl (by decide) rfl (by decide) rfl (fun _ => ?_)
      refine mS_bind (fun q1 hq1 => mS_call 126 1 [.int (x.1 (222 + 1) a2.toNatClampNeg)] [] rfl rfl rfl ⟨_, _, _, rfl, rfl⟩ (Nat.le_of_ble_eq_true rfl) (Nat.le_of_ble_eq_true rfl) hq1 (f_X10_lowest_snd (x.1 (222 + 1) a2.toNatClampNeg) (mk x y)) ?_)
      refine mS_steps (pc' := 22) (ls' := [.ref 222, .int a1, .int a2, .int q1]) (st' := [.int (-1 : Int32), .int q1]) (mem' := (mk x y)) 3 rfl ?_
      refine mS_ic0 rfl (fun _ => ?_) (fun _ => ?_)
      · refine mS_steps (pc' := 4) (ls' := [.ref 222, .int a1, .int (a2 + (1 : Int32)), .int q1]) (st' := []) (mem' := (mk x y)) 2 rfl ?_
        refine mS_forget [.ref 222, .int a1, .int (a2 + (1 : Int32)), mU] ⟨Or.inr rfl, Or.inr rfl, Or.inr rfl, Or.inl rfl, trivial⟩ ?_
        exact ih a1 (a2 + (1 : Int32))
      · refine mS_steps (pc' := 30) (ls' := [.ref 222, .int a1, .int a2, .int q1]) (st' := [.int a2, .ref 223]) (mem' := (mk x y)) 3 rfl ?_
        refine mS_ald (b := 0) (n := 8) (z := (x.1 (222 + 1) a2.toNatClampNeg)) rfl (by decide) rfl (by decide) rfl (fun _ => ?_)
        refine mS_steps (pc' := 34) (ls' := [.ref 222, .int a1, .int a2, .int q1]) (st' := [.int q1, .int a2, .ref 222, .int (x.1 (222 + 1) a2.toNatClampNeg)]) (mem' := (mk x y)) 3 rfl ?_
        refine mS_bind (fun q2 hq2 => mS_call 115 3 [.ref 222, .int a2, .int q1] [.int (x.1 (222 + 1) a2.toNatClampNeg)] rfl rfl rfl ⟨_, _, _, rfl, rfl⟩ (Nat.le_of_ble_eq_true rfl) (Nat.le_of_ble_eq_true rfl) hq2 (f_X3_without_222_snd a2 q1 x y) ?_)
        refine mS_steps (pc' := 40) (ls' := [.ref 222, .int a1, .int a2, .int q1]) (st' := [.int ((x.1 (222 + 1) a2.toNatClampNeg) &&& (q2 ^^^ (-1 : Int32)))]) (mem' := (mk x y)) 3 rfl ?_
        refine mS_if0 rfl (fun _ => ?_) (fun _ => ?_)
        · refine mS_steps (pc' := 4) (ls' := [.ref 222, .int a1, .int (a2 + (1 : Int32)), .int q1]) (st' := []) (mem' := (mk x y)) 2 rfl ?_
          refine mS_forget [.ref 222, .int a1, .int (a2 + (1 : Int32)), mU] ⟨Or.inr rfl, Or.inr rfl, Or.inr rfl, Or.inl rfl, trivial⟩ ?_
          exact ih a1 (a2 + (1 : Int32))
        · refine mS_steps (pc' := 4) (ls' := [.ref 222, .int (a1 ||| ((1 : Int32) <<< (a2 &&& 31))), .int (a2 + (1 : Int32)), .int q1]) (st' := []) (mem' := (mk x y)) 8 rfl ?_
          refine mS_forget [.ref 222, .int (a1 ||| ((1 : Int32) <<< (a2 &&& 31))), .int (a2 + (1 : Int32)), mU] ⟨Or.inr rfl, Or.inr rfl, Or.inr rfl, Or.inl rfl, trivial⟩ ?_
          exact ih (a1 ||| ((1 : Int32) <<< (a2 &&& 31))) (a2 + (1 : Int32))
set_option maxRecDepth 20000 in
set_option maxHeartbeats 2000000 in
theorem f_X3_cutPosts_222_snd {fm : Value} {L : Nat} {xs : Nat → Int32} (x : mX) (y : mY) : mS fm L xs (fun r : Int32 => (.int r, (mk x y))) pg_X3_cutPosts 0 (m_entry [.ref 222] 4) [] (mk x y) ((f_X3_cutPosts 222 x)) := by
  unfold f_X3_cutPosts
  refine mS_steps (pc' := 0) (ls' := [.ref 222, mU, mU, mU]) (st' := []) (mem' := (mk x y)) 0 rfl ?_
  refine mS_steps (pc' := 4) (ls' := [.ref 222, .int (0 : Int32), .int (0 : Int32), mU]) (st' := []) (mem' := (mk x y)) 4 rfl ?_
  refine f_X3_cutPosts_L4_222_snd x y mF (0 : Int32) (0 : Int32)
set_option maxRecDepth 20000 in
set_option maxHeartbeats 2000000 in
theorem f_X3_cutPosts_L4_228_snd {fm : Value} {L : Nat} {xs : Nat → Int32} (x : mX) (y : mY) : ∀ (n : Nat) (a1 : Int32) (a2 : Int32), mS fm L xs (fun r : Int32 => (.int r, (mk x y))) pg_X3_cutPosts 4 [.ref 228, .int a1, .int a2, mU] [] (mk x y) (f_X3_cutPosts_L4 228 n a1 a2 x) := by
  intro n
  induction n with
  | zero => intro a1 a2; exact mS_none
  | succ n ih =>
    intro a1 a2
    rw [f_X3_cutPosts_L4]
    refine mS_steps (pc' := 7) (ls' := [.ref 228, .int a1, .int a2, mU]) (st' := [.int (8 : Int32), .int a2]) (mem' := (mk x y)) 2 rfl ?_
    refine mS_ic3 rfl (fun _ => ?_) (fun _ => ?_)
    · refine mS_steps (pc' := 56) (ls' := [.ref 228, .int a1, .int a2, mU]) (st' := [.int a1]) (mem' := (mk x y)) 1 rfl ?_
      exact mS_reti ⟨_, _, _, _, _, rfl, rfl⟩ rfl
    · refine mS_steps (pc' := 15) (ls' := [.ref 228, .int a1, .int a2, mU]) (st' := [.int a2, .ref 229]) (mem' := (mk x y)) 3 rfl ?_
      refine mS_ald (b := 0) (n := 8) (z := (x.1 (228 + 1) a2.toNatClampNeg)) rfl (by decide) rfl (by decide) rfl (fun _ => ?_)
      refine mS_bind (fun q1 hq1 => mS_call 126 1 [.int (x.1 (228 + 1) a2.toNatClampNeg)] [] rfl rfl rfl ⟨_, _, _, rfl, rfl⟩ (Nat.le_of_ble_eq_true rfl) (Nat.le_of_ble_eq_true rfl) hq1 (f_X10_lowest_snd (x.1 (228 + 1) a2.toNatClampNeg) (mk x y)) ?_)
      refine mS_steps (pc' := 22) (ls' := [.ref 228, .int a1, .int a2, .int q1]) (st' := [.int (-1 : Int32), .int q1]) (mem' := (mk x y)) 3 rfl ?_
      refine mS_ic0 rfl (fun _ => ?_) (fun _ => ?_)
      · refine mS_steps (pc' := 4) (ls' := [.ref 228, .int a1, .int (a2 + (1 : Int32)), .int q1]) (st' := []) (mem' := (mk x y)) 2 rfl ?_
        refine mS_forget [.ref 228, .int a1, .int (a2 + (1 : Int32)), mU] ⟨Or.inr rfl, Or.inr rfl, Or.inr rfl, Or.inl rfl, trivial⟩ ?_
        exact ih a1 (a2 + (1 : Int32))
      · refine mS_steps (pc' := 30) (ls' := [.ref 228, .int a1, .int a2, .int q1]) (st' := [.int a2, .ref 229]) (mem' := (mk x y)) 3 rfl ?_
        refine mS_ald (b := 0) (n := 8) (z := (x.1 (228 + 1) a2.toNatClampNeg)) rfl (by decide) rfl (by decide) rfl (fun _ => ?_)
        refine mS_steps (pc' := 34) (ls' := [.ref 228, .int a1, .int a2, .int q1]) (st' := [.int q1, .int a2, .ref 228, .int (x.1 (228 + 1) a2.toNatClampNeg)]) (mem' := (mk x y)) 3 rfl ?_
        refine mS_bind (fun q2 hq2 => mS_call 115 3 [.ref 228, .int a2, .int q1] [.int (x.1 (228 + 1) a2.toNatClampNeg)] rfl rfl rfl ⟨_, _, _, rfl, rfl⟩ (Nat.le_of_ble_eq_true rfl) (Nat.le_of_ble_eq_true rfl) hq2 (f_X3_without_228_snd a2 q1 x y) ?_)
        refine mS_steps (pc' := 40) (ls' := [.ref 228, .int a1, .int a2, .int q1]) (st' := [.int ((x.1 (228 + 1) a2.toNatClampNeg) &&& (q2 ^^^ (-1 : Int32)))]) (mem' := (mk x y)) 3 rfl ?_
        refine mS_if0 rfl (fun _ => ?_) (fun _ => ?_)
        · refine mS_steps (pc' := 4) (ls' := [.ref 228, .int a1, .int (a2 + (1 : Int32)), .int q1]) (st' := []) (mem' := (mk x y)) 2 rfl ?_
          refine mS_forget [.ref 228, .int a1, .int (a2 + (1 : Int32)), mU] ⟨Or.inr rfl, Or.inr rfl, Or.inr rfl, Or.inl rfl, trivial⟩ ?_
          exact ih a1 (a2 + (1 : Int32))
        · refine mS_steps (pc' := 4) (ls' := [.ref 228, .int (a1 ||| ((1 : Int32) <<< (a2 &&& 31))), .int (a2 + (1 : Int32)), .int q1]) (st' := []) (mem' := (mk x y)) 8 rfl ?_
          refine mS_forget [.ref 228, .int (a1 ||| ((1 : Int32) <<< (a2 &&& 31))), .int (a2 + (1 : Int32)), mU] ⟨Or.inr rfl, Or.inr rfl, Or.inr rfl, Or.inl rfl, trivial⟩ ?_
          exact ih (a1 ||| ((1 : Int32) <<< (a2 &&& 31))) (a2 + (1 : Int32))
set_option maxRecDepth 20000 in
set_option maxHeartbeats 2000000 in
theorem f_X3_cutPosts_228_snd {fm : Value} {L : Nat} {xs : Nat → Int32} (x : mX) (y : mY) : mS fm L xs (fun r : Int32 => (.int r, (mk x y))) pg_X3_cutPosts 0 (m_entry [.ref 228] 4) [] (mk x y) ((f_X3_cutPosts 228 x)) := by
  unfold f_X3_cutPosts
  refine mS_steps (pc' := 0) (ls' := [.ref 228, mU, mU, mU]) (st' := []) (mem' := (mk x y)) 0 rfl ?_
  refine mS_steps (pc' := 4) (ls' := [.ref 228, .int (0 : Int32), .int (0 : Int32), mU]) (st' := []) (mem' := (mk x y)) 4 rfl ?_
  refine f_X3_cutPosts_L4_228_snd x y mF (0 : Int32) (0 : Int32)
set_option maxRecDepth 20000 in
set_option maxHeartbeats 2000000 in
theorem f_X3_cutPosts_L4_258_snd {fm : Value} {L : Nat} {xs : Nat → Int32} (x : mX) (y : mY) : ∀ (n : Nat) (a1 : Int32) (a2 : Int32), mS fm L xs (fun r : Int32 => (.int r, (mk x y))) pg_X3_cutPosts 4 [.ref 258, .int a1, .int a2, mU] [] (mk x y) (f_X3_cutPosts_L4 258 n a1 a2 x) := by
  intro n
  induction n with
  | zero => intro a1 a2; exact mS_none
  | succ n ih =>
    intro a1 a2
    rw [f_X3_cutPosts_L4]
    refine mS_steps (pc' := 7) (ls' := [.ref 258, .int a1, .int a2, mU]) (st' := [.int (8 : Int32), .int a2]) (mem' := (mk x y)) 2 rfl ?_
    refine mS_ic3 rfl (fun _ => ?_) (fun _ => ?_)
    · refine mS_steps (pc' := 56) (ls' := [.ref 258, .int a1, .int a2, mU]) (st' := [.int a1]) (mem' := (mk x y)) 1 rfl ?_
      exact mS_reti ⟨_, _, _, _, _, rfl, rfl⟩ rfl
    · refine mS_steps (pc' := 15) (ls' := [.ref 258, .int a1, .int a2, mU]) (st' := [.int a2, .ref 259]) (mem' := (mk x y)) 3 rfl ?_
      refine mS_ald (b := 0) (n := 8) (z := (x.1 (258 + 1) a2.toNatClampNeg)) rfl (by decide) rfl (by decide) rfl (fun _ => ?_)
      refine mS_bind (fun q1 hq1 => mS_call 126 1 [.int (x.1 (258 + 1) a2.toNatClampNeg)] [] rfl rfl rfl ⟨_, _, _, rfl, rfl⟩ (Nat.le_of_ble_eq_true rfl) (Nat.le_of_ble_eq_true rfl) hq1 (f_X10_lowest_snd (x.1 (258 + 1) a2.toNatClampNeg) (mk x y)) ?_)
      refine mS_steps (pc' := 22) (ls' := [.ref 258, .int a1, .int a2, .int q1]) (st' := [.int (-1 : Int32), .int q1]) (mem' := (mk x y)) 3 rfl ?_
      refine mS_ic0 rfl (fun _ => ?_) (fun _ => ?_)
      · refine mS_steps (pc' := 4) (ls' := [.ref 258, .int a1, .int (a2 + (1 : Int32)), .int q1]) (st' := []) (mem' := (mk x y)) 2 rfl ?_
        refine mS_forget [.ref 258, .int a1, .int (a2 + (1 : Int32)), mU] ⟨Or.inr rfl, Or.inr rfl, Or.inr rfl, Or.inl rfl, trivial⟩ ?_
        exact ih a1 (a2 + (1 : Int32))
      · refine mS_steps (pc' := 30) (ls' := [.ref 258, .int a1, .int a2, .int q1]) (st' := [.int a2, .ref 259]) (mem' := (mk x y)) 3 rfl ?_
        refine mS_ald (b := 0) (n := 8) (z := (x.1 (258 + 1) a2.toNatClampNeg)) rfl (by decide) rfl (by decide) rfl (fun _ => ?_)
        refine mS_steps (pc' := 34) (ls' := [.ref 258, .int a1, .int a2, .int q1]) (st' := [.int q1, .int a2, .ref 258, .int (x.1 (258 + 1) a2.toNatClampNeg)]) (mem' := (mk x y)) 3 rfl ?_
        refine mS_bind (fun q2 hq2 => mS_call 115 3 [.ref 258, .int a2, .int q1] [.int (x.1 (258 + 1) a2.toNatClampNeg)] rfl rfl rfl ⟨_, _, _, rfl, rfl⟩ (Nat.le_of_ble_eq_true rfl) (Nat.le_of_ble_eq_true rfl) hq2 (f_X3_without_258_snd a2 q1 x y) ?_)
        refine mS_steps (pc' := 40) (ls' := [.ref 258, .int a1, .int a2, .int q1]) (st' := [.int ((x.1 (258 + 1) a2.toNatClampNeg) &&& (q2 ^^^ (-1 : Int32)))]) (mem' := (mk x y)) 3 rfl ?_
        refine mS_if0 rfl (fun _ => ?_) (fun _ => ?_)
        · refine mS_steps (pc' := 4) (ls' := [.ref 258, .int a1, .int (a2 + (1 : Int32)), .int q1]) (st' := []) (mem' := (mk x y)) 2 rfl ?_
          refine mS_forget [.ref 258, .int a1, .int (a2 + (1 : Int32)), mU] ⟨Or.inr rfl, Or.inr rfl, Or.inr rfl, Or.inl rfl, trivial⟩ ?_
          exact ih a1 (a2 + (1 : Int32))
        · refine mS_steps (pc' := 4) (ls' := [.ref 258, .int (a1 ||| ((1 : Int32) <<< (a2 &&& 31))), .int (a2 + (1 : Int32)), .int q1]) (st' := []) (mem' := (mk x y)) 8 rfl ?_
          refine mS_forget [.ref 258, .int (a1 ||| ((1 : Int32) <<< (a2 &&& 31))), .int (a2 + (1 : Int32)), mU] ⟨Or.inr rfl, Or.inr rfl, Or.inr rfl, Or.inl rfl, trivial⟩ ?_
          exact ih (a1 ||| ((1 : Int32) <<< (a2 &&& 31))) (a2 + (1 : Int32))
set_option maxRecDepth 20000 in
set_option maxHeartbeats 2000000 in
theorem f_X3_cutPosts_258_snd {fm : Value} {L : Nat} {xs : Nat → Int32} (x : mX) (y : mY) : mS fm L xs (fun r : Int32 => (.int r, (mk x y))) pg_X3_cutPosts 0 (m_entry [.ref 258] 4) [] (mk x y) ((f_X3_cutPosts 258 x)) := by
  unfold f_X3_cutPosts
  refine mS_steps (pc' := 0) (ls' := [.ref 258, mU, mU, mU]) (st' := []) (mem' := (mk x y)) 0 rfl ?_
  refine mS_steps (pc' := 4) (ls' := [.ref 258, .int (0 : Int32), .int (0 : Int32), mU]) (st' := []) (mem' := (mk x y)) 4 rfl ?_
  refine f_X3_cutPosts_L4_258_snd x y mF (0 : Int32) (0 : Int32)
def f_X10_cuts (p1 : Int32) (x : mX) : Option (Int32 × mX) := (if (f_X10_isNet p1) = 0 then (some ((-1 : Int32), x)) else ((f_X10_netOf p1 x).bind fun q1 => (if q1.1 = 222 then ((f_X3_cutPosts 222 q1.2).bind fun q2 => (some (q2, q1.2))) else (if q1.1 = 228 then ((f_X3_cutPosts 228 q1.2).bind fun q3 => (some (q3, q1.2))) else none))))
set_option maxRecDepth 20000 in
set_option maxHeartbeats 2000000 in
theorem f_X10_cuts_snd {fm : Value} {L : Nat} {xs : Nat → Int32} (p1 : Int32) (x : mX) (y : mY) : mS fm L xs (fun r : (Int32 × mX) => (.int r.1, mk r.2 y)) pg_X10_cuts 0 (m_entry [.ref 0, .int p1] 2) [] (mk x y) ((f_X10_cuts p1 x)) := by
  unfold f_X10_cuts
  refine mS_steps (pc' := 0) (ls' := [.ref 0, .int p1]) (st' := []) (mem' := (mk x y)) 0 rfl ?_
  refine mS_steps (pc' := 1) (ls' := [.ref 0, .int p1]) (st' := [.int p1]) (mem' := (mk x y)) 1 rfl ?_
  refine mS_call (q := (f_X10_isNet p1)) 166 1 [.int p1] [] rfl rfl rfl ⟨_, _, _, rfl, rfl⟩ (Nat.le_of_ble_eq_true rfl) (Nat.le_of_ble_eq_true rfl) rfl (f_X10_isNet_snd p1 (mk x y)) ?_
  refine mS_steps (pc' := 4) (ls' := [.ref 0, .int p1]) (st' := [.int (f_X10_isNet p1)]) (mem' := (mk x y)) 0 rfl ?_
  refine mS_if0 rfl (fun _ => ?_) (fun _ => ?_)
  · refine mS_steps (pc' := 19) (ls' := [.ref 0, .int p1]) (st' := [.int (-1 : Int32)]) (mem' := (mk x y)) 1 rfl ?_
    exact mS_reti ⟨_, _, _, _, _, rfl, rfl⟩ rfl
  · refine mS_steps (pc' := 9) (ls' := [.ref 0, .int p1]) (st' := [.int p1, .ref 0]) (mem' := (mk x y)) 2 rfl ?_
    refine mS_bind (fun q1 hq1 => mS_call 169 2 [.ref 0, .int p1] [] rfl rfl rfl ⟨_, _, _, rfl, rfl⟩ (Nat.le_of_ble_eq_true rfl) (Nat.le_of_ble_eq_true rfl) hq1 (f_X10_netOf_snd p1 x y) ?_)
    refine mS_steps (pc' := 12) (ls' := [.ref 0, .int p1]) (st' := [.ref q1.1]) (mem' := (mk q1.2 y)) 0 rfl ?_
    refine mS_ite (fun hc => ?_) (fun _ => ?_)
    · rw [hc]
      refine mS_steps (pc' := 12) (ls' := [.ref 0, .int p1]) (st' := [.ref 222]) (mem' := (mk q1.2 y)) 0 rfl ?_
      refine mS_bind (fun q2 hq2 => mS_call 179 1 [.ref 222] [] rfl rfl rfl ⟨_, _, _, rfl, rfl⟩ (Nat.le_of_ble_eq_true rfl) (Nat.le_of_ble_eq_true rfl) hq2 (f_X3_cutPosts_222_snd  q1.2 y) ?_)
      refine mS_steps (pc' := 19) (ls' := [.ref 0, .int p1]) (st' := [.int q2]) (mem' := (mk q1.2 y)) 1 rfl ?_
      exact mS_reti ⟨_, _, _, _, _, rfl, rfl⟩ rfl
    refine mS_ite (fun hc => ?_) (fun _ => ?_)
    · rw [hc]
      refine mS_steps (pc' := 12) (ls' := [.ref 0, .int p1]) (st' := [.ref 228]) (mem' := (mk q1.2 y)) 0 rfl ?_
      refine mS_bind (fun q3 hq3 => mS_call 179 1 [.ref 228] [] rfl rfl rfl ⟨_, _, _, rfl, rfl⟩ (Nat.le_of_ble_eq_true rfl) (Nat.le_of_ble_eq_true rfl) hq3 (f_X3_cutPosts_228_snd  q1.2 y) ?_)
      refine mS_steps (pc' := 19) (ls' := [.ref 0, .int p1]) (st' := [.int q3]) (mem' := (mk q1.2 y)) 1 rfl ?_
      exact mS_reti ⟨_, _, _, _, _, rfl, rfl⟩ rfl
    exact mS_none
def f_X11_piecesOf_L5 (a1 : Int32) (a2 : Int32) : Nat → Int32 → Int32 → mY → Option Int32
  | 0, _, _, _ => none
  | n + 1, a3, a4, y => (if a4 = 0 then (some a3) else ((f_X11_lowestOf a4).bind fun q1 => ((f_X11_comes a1 q1 a2 y).bind fun q2 => (f_X11_piecesOf_L5 a1 a2 n (a3 + (1 : Int32)) (a4 &&& (q2 ^^^ (-1 : Int32))) y))))
def f_X11_piecesOf (p1 : Int32) (p2 : Int32) (y : mY) : Option Int32 := (f_X11_piecesOf_L5 p1 p2 mF (0 : Int32) p2 y)
set_option maxRecDepth 20000 in
set_option maxHeartbeats 2000000 in
theorem f_X11_piecesOf_L5_snd {fm : Value} {L : Nat} {xs : Nat → Int32} (a1 : Int32) (a2 : Int32) (y : mY) (x : mX) : ∀ (n : Nat) (a3 : Int32) (a4 : Int32), mS fm L xs (fun r : Int32 => (.int r, (mk x y))) pg_X11_piecesOf 5 [.ref 279, .int a1, .int a2, .int a3, .int a4] [] (mk x y) (f_X11_piecesOf_L5 a1 a2 n a3 a4 y) := by
  intro n
  induction n with
  | zero => intro a3 a4; exact mS_none
  | succ n ih =>
    intro a3 a4
    rw [f_X11_piecesOf_L5]
    refine mS_steps (pc' := 7) (ls' := [.ref 279, .int a1, .int a2, .int a3, .int a4]) (st' := [.int a4]) (mem' := (mk x y)) 1 rfl ?_
    refine mS_if0 rfl (fun _ => ?_) (fun _ => ?_)
    · refine mS_steps (pc' := 35) (ls' := [.ref 279, .int a1, .int a2, .int a3, .int a4]) (st' := [.int a3]) (mem' := (mk x y)) 1 rfl ?_
      exact mS_reti ⟨_, _, _, _, _, rfl, rfl⟩ rfl
    · refine mS_steps (pc' := 19) (ls' := [.ref 279, .int a1, .int a2, .int (a3 + (1 : Int32)), .int a4]) (st' := [.int a4, .int a1, .ref 279, .int a4]) (mem' := (mk x y)) 5 rfl ?_
      refine mS_bind (fun q1 hq1 => mS_call 145 1 [.int a4] [.int a1, .ref 279, .int a4] rfl rfl rfl ⟨_, _, _, rfl, rfl⟩ (Nat.le_of_ble_eq_true rfl) (Nat.le_of_ble_eq_true rfl) hq1 (f_X11_lowestOf_snd a4 (mk x y)) ?_)
      refine mS_steps (pc' := 23) (ls' := [.ref 279, .int a1, .int a2, .int (a3 + (1 : Int32)), .int a4]) (st' := [.int a2, .int q1, .int a1, .ref 279, .int a4]) (mem' := (mk x y)) 1 rfl ?_
      refine mS_bind (fun q2 hq2 => mS_call 146 4 [.ref 279, .int a1, .int q1, .int a2] [.int a4] rfl rfl rfl ⟨_, _, _, rfl, rfl⟩ (Nat.le_of_ble_eq_true rfl) (Nat.le_of_ble_eq_true rfl) hq2 (f_X11_comes_snd a1 q1 a2 y x) ?_)
      refine mS_steps (pc' := 5) (ls' := [.ref 279, .int a1, .int a2, .int (a3 + (1 : Int32)), .int (a4 &&& (q2 ^^^ (-1 : Int32)))]) (st' := []) (mem' := (mk x y)) 5 rfl ?_
      exact ih (a3 + (1 : Int32)) (a4 &&& (q2 ^^^ (-1 : Int32)))
set_option maxRecDepth 20000 in
set_option maxHeartbeats 2000000 in
theorem f_X11_piecesOf_snd {fm : Value} {L : Nat} {xs : Nat → Int32} (p1 : Int32) (p2 : Int32) (y : mY) (x : mX) : mS fm L xs (fun r : Int32 => (.int r, (mk x y))) pg_X11_piecesOf 0 (m_entry [.ref 279, .int p1, .int p2] 5) [] (mk x y) ((f_X11_piecesOf p1 p2 y)) := by
  unfold f_X11_piecesOf
  refine mS_steps (pc' := 0) (ls' := [.ref 279, .int p1, .int p2, mU, mU]) (st' := []) (mem' := (mk x y)) 0 rfl ?_
  refine mS_steps (pc' := 5) (ls' := [.ref 279, .int p1, .int p2, .int (0 : Int32), .int p2]) (st' := []) (mem' := (mk x y)) 4 rfl ?_
  refine f_X11_piecesOf_L5_snd p1 p2 y x mF (0 : Int32) p2
def f_X11_cuts_L28 (a1 : Int32) (a2 : Int32) (a3 : Int32) : Nat → Int32 → Int32 → mY → Option (Int32 × mY)
  | 0, _, _, _ => none
  | n + 1, a4, a5, y => (if (8 : Int32) ≤ a5 then (some (a4, y)) else (if (f_X11_has a2 a5) = 0 then (f_X11_cuts_L28 a1 a2 a3 n a4 (a5 + (1 : Int32)) y) else ((f_X11_piecesOf a1 (a2 &&& (((1 : Int32) <<< (a5 &&& 31)) ^^^ (-1 : Int32))) y).bind fun q4 => (if q4 ≤ a3 then (f_X11_cuts_L28 a1 a2 a3 n a4 (a5 + (1 : Int32)) y) else (f_X11_cuts_L28 a1 a2 a3 n (a4 ||| ((1 : Int32) <<< (a5 &&& 31))) (a5 + (1 : Int32)) y)))))
def f_X11_cuts (p1 : Int32) (y : mY) : Option (Int32 × mY) := ((f_X11_isWhich p1).bind fun q1 => (if q1 = 0 then (some ((-1 : Int32), y)) else ((f_X11_laysNet p1 y).bind fun q2 => ((f_X11_piecesOf p1 q2.1 q2.2).bind fun q3 => (f_X11_cuts_L28 p1 q2.1 q3 mF (0 : Int32) (0 : Int32) q2.2)))))
set_option maxRecDepth 20000 in
set_option maxHeartbeats 2000000 in
theorem f_X11_cuts_L28_snd {fm : Value} {L : Nat} {xs : Nat → Int32} (a1 : Int32) (a2 : Int32) (a3 : Int32) (y : mY) (x : mX) : ∀ (n : Nat) (a4 : Int32) (a5 : Int32), mS fm L xs (fun r : (Int32 × mY) => (.int r.1, mk x r.2)) pg_X11_cuts 28 [.ref 279, .int a1, .int a2, .int a3, .int a4, .int a5] [] (mk x y) (f_X11_cuts_L28 a1 a2 a3 n a4 a5 y) := by
  intro n
  induction n with
  | zero => intro a4 a5; exact mS_none
  | succ n ih =>
    intro a4 a5
    rw [f_X11_cuts_L28]
    refine mS_steps (pc' := 32) (ls' := [.ref 279, .int a1, .int a2, .int a3, .int a4, .int a5]) (st' := [.int (8 : Int32), .int a5]) (mem' := (mk x y)) 2 rfl ?_
    refine mS_ic3 rfl (fun _ => ?_) (fun _ => ?_)
    · refine mS_steps (pc' := 78) (ls' := [.ref 279, .int a1, .int a2, .int a3, .int a4, .int a5]) (st' := [.int a4]) (mem' := (mk x y)) 1 rfl ?_
      exact mS_reti ⟨_, _, _, _, _, rfl, rfl⟩ rfl
    · refine mS_steps (pc' := 38) (ls' := [.ref 279, .int a1, .int a2, .int a3, .int a4, .int a5]) (st' := [.int a5, .int a2]) (mem' := (mk x y)) 2 rfl ?_
      refine mS_call (q := (f_X11_has a2 a5)) 87 2 [.int a2, .int a5] [] rfl rfl rfl ⟨_, _, _, rfl, rfl⟩ (Nat.le_of_ble_eq_true rfl) (Nat.le_of_ble_eq_true rfl) rfl (f_X11_has_snd a2 a5 (mk x y)) ?_
      refine mS_steps (pc' := 41) (ls' := [.ref 279, .int a1, .int a2, .int a3, .int a4, .int a5]) (st' := [.int (f_X11_has a2 a5)]) (mem' := (mk x y)) 0 rfl ?_
      refine mS_if0 rfl (fun _ => ?_) (fun _ => ?_)
      · refine mS_steps (pc' := 28) (ls' := [.ref 279, .int a1, .int a2, .int a3, .int a4, .int (a5 + (1 : Int32))]) (st' := []) (mem' := (mk x y)) 2 rfl ?_
        exact ih a4 (a5 + (1 : Int32))
      · refine mS_steps (pc' := 54) (ls' := [.ref 279, .int a1, .int a2, .int a3, .int a4, .int a5]) (st' := [.int (a2 &&& (((1 : Int32) <<< (a5 &&& 31)) ^^^ (-1 : Int32))), .int a1, .ref 279]) (mem' := (mk x y)) 9 rfl ?_
        refine mS_bind (fun q4 hq4 => mS_call 181 3 [.ref 279, .int a1, .int (a2 &&& (((1 : Int32) <<< (a5 &&& 31)) ^^^ (-1 : Int32)))] [] rfl rfl rfl ⟨_, _, _, rfl, rfl⟩ (Nat.le_of_ble_eq_true rfl) (Nat.le_of_ble_eq_true rfl) hq4 (f_X11_piecesOf_snd a1 (a2 &&& (((1 : Int32) <<< (a5 &&& 31)) ^^^ (-1 : Int32))) y x) ?_)
        refine mS_steps (pc' := 58) (ls' := [.ref 279, .int a1, .int a2, .int a3, .int a4, .int a5]) (st' := [.int a3, .int q4]) (mem' := (mk x y)) 1 rfl ?_
        refine mS_ic5 rfl (fun _ => ?_) (fun _ => ?_)
        · refine mS_steps (pc' := 28) (ls' := [.ref 279, .int a1, .int a2, .int a3, .int a4, .int (a5 + (1 : Int32))]) (st' := []) (mem' := (mk x y)) 2 rfl ?_
          exact ih a4 (a5 + (1 : Int32))
        · refine mS_steps (pc' := 28) (ls' := [.ref 279, .int a1, .int a2, .int a3, .int (a4 ||| ((1 : Int32) <<< (a5 &&& 31))), .int (a5 + (1 : Int32))]) (st' := []) (mem' := (mk x y)) 8 rfl ?_
          exact ih (a4 ||| ((1 : Int32) <<< (a5 &&& 31))) (a5 + (1 : Int32))
set_option maxRecDepth 20000 in
set_option maxHeartbeats 2000000 in
theorem f_X11_cuts_snd {fm : Value} {L : Nat} {xs : Nat → Int32} (p1 : Int32) (y : mY) (x : mX) : mS fm L xs (fun r : (Int32 × mY) => (.int r.1, mk x r.2)) pg_X11_cuts 0 (m_entry [.ref 279, .int p1] 6) [] (mk x y) ((f_X11_cuts p1 y)) := by
  unfold f_X11_cuts
  refine mS_steps (pc' := 0) (ls' := [.ref 279, .int p1, mU, mU, mU, mU]) (st' := []) (mem' := (mk x y)) 0 rfl ?_
  refine mS_steps (pc' := 1) (ls' := [.ref 279, .int p1, mU, mU, mU, mU]) (st' := [.int p1]) (mem' := (mk x y)) 1 rfl ?_
  refine mS_bind (fun q1 hq1 => mS_call 173 1 [.int p1] [] rfl rfl rfl ⟨_, _, _, rfl, rfl⟩ (Nat.le_of_ble_eq_true rfl) (Nat.le_of_ble_eq_true rfl) hq1 (f_X11_isWhich_snd p1 (mk x y)) ?_)
  refine mS_steps (pc' := 4) (ls' := [.ref 279, .int p1, mU, mU, mU, mU]) (st' := [.int q1]) (mem' := (mk x y)) 0 rfl ?_
  refine mS_if1 rfl (fun _ => ?_) (fun _ => ?_)
  · refine mS_steps (pc' := 8) (ls' := [.ref 279, .int p1, mU, mU, mU, mU]) (st' := [.int (-1 : Int32)]) (mem' := (mk x y)) 1 rfl ?_
    exact mS_reti ⟨_, _, _, _, _, rfl, rfl⟩ rfl
  · refine mS_steps (pc' := 11) (ls' := [.ref 279, .int p1, mU, mU, mU, mU]) (st' := [.int p1, .ref 279]) (mem' := (mk x y)) 2 rfl ?_
    refine mS_bind (fun q2 hq2 => mS_call 143 2 [.ref 279, .int p1] [] rfl rfl rfl ⟨_, _, _, rfl, rfl⟩ (Nat.le_of_ble_eq_true rfl) (Nat.le_of_ble_eq_true rfl) hq2 (f_X11_laysNet_snd p1 y x) ?_)
    refine mS_steps (pc' := 18) (ls' := [.ref 279, .int p1, .int q2.1, mU, mU, mU]) (st' := [.int q2.1, .int p1, .ref 279]) (mem' := (mk x q2.2)) 4 rfl ?_
    refine mS_bind (fun q3 hq3 => mS_call 181 3 [.ref 279, .int p1, .int q2.1] [] rfl rfl rfl ⟨_, _, _, rfl, rfl⟩ (Nat.le_of_ble_eq_true rfl) (Nat.le_of_ble_eq_true rfl) hq3 (f_X11_piecesOf_snd p1 q2.1 q2.2 x) ?_)
    refine mS_steps (pc' := 28) (ls' := [.ref 279, .int p1, .int q2.1, .int q3, .int (0 : Int32), .int (0 : Int32)]) (st' := []) (mem' := (mk x q2.2)) 5 rfl ?_
    refine f_X11_cuts_L28_snd p1 q2.1 q3 q2.2 x mF (0 : Int32) (0 : Int32)
def f_X3_bridgeLinks_L14 (r0 : Nat) (a2 : Int32) : Nat → Int32 → Int32 → mX → (Int32 → Option Int32) → Option Int32
  | 0, _, _, _, _ => none
  | n + 1, a1, a3, x, k75 => (if (8 : Int32) ≤ a3 then (k75 a1) else ((f_X3_linkOf r0 a2 a3 x).bind fun q1 => (if q1 = (-1 : Int32) then (f_X3_bridgeLinks_L14 r0 a2 n a1 (a3 + (1 : Int32)) x k75) else (if (f_X10_has (x.1 r0 3) q1) = 0 then (f_X3_bridgeLinks_L14 r0 a2 n a1 (a3 + (1 : Int32)) x k75) else ((f_X3_blockOf r0 a2 a3 x).bind fun q2 => (if q2 = (((1 : Int32) <<< (a2 &&& 31)) ||| ((1 : Int32) <<< (a3 &&& 31))) then (f_X3_bridgeLinks_L14 r0 a2 n (a1 ||| ((1 : Int32) <<< (q1 &&& 31))) (a3 + (1 : Int32)) x k75) else (f_X3_bridgeLinks_L14 r0 a2 n a1 (a3 + (1 : Int32)) x k75)))))))
def f_X3_bridgeLinks_L4 (r0 : Nat) : Nat → Int32 → Int32 → mX → Option Int32
  | 0, _, _, _ => none
  | n + 1, a1, a2, x => (if (8 : Int32) ≤ a2 then (some a1) else (f_X3_bridgeLinks_L14 r0 a2 mF a1 (a2 + (1 : Int32)) x (fun v3 => (f_X3_bridgeLinks_L4 r0 n v3 (a2 + (1 : Int32)) x))))
def f_X3_bridgeLinks (r0 : Nat) (x : mX) : Option Int32 := (f_X3_bridgeLinks_L4 r0 mF (0 : Int32) (0 : Int32) x)
set_option maxRecDepth 20000 in
set_option maxHeartbeats 2000000 in
theorem f_X3_bridgeLinks_L14_222_snd {fm : Value} {L : Nat} {xs : Nat → Int32} (a2 : Int32) (x : mX) (y : mY) (k75 : Int32 → Option Int32) (hk75 : ∀ (b1 : Int32), mS fm L xs (fun r : Int32 => (.int r, (mk x y))) pg_X3_bridgeLinks 75 [.ref 222, .int b1, .int a2, mU, mU] [] (mk x y) (k75 b1)) : ∀ (n : Nat) (a1 : Int32) (a3 : Int32), mS fm L xs (fun r : Int32 => (.int r, (mk x y))) pg_X3_bridgeLinks 14 [.ref 222, .int a1, .int a2, .int a3, mU] [] (mk x y) (f_X3_bridgeLinks_L14 222 a2 n a1 a3 x k75) := by
  intro n
  induction n with
  | zero => intro a1 a3; exact mS_none
  | succ n ih =>
    intro a1 a3
    rw [f_X3_bridgeLinks_L14]
    refine mS_steps (pc' := 17) (ls' := [.ref 222, .int a1, .int a2, .int a3, mU]) (st' := [.int (8 : Int32), .int a3]) (mem' := (mk x y)) 2 rfl ?_
    refine mS_ic3 rfl (fun _ => ?_) (fun _ => ?_)
    · refine mS_forget [.ref 222, .int a1, .int a2, mU, mU] ⟨Or.inr rfl, Or.inr rfl, Or.inr rfl, Or.inl rfl, Or.inl rfl, trivial⟩ ?_
      exact hk75 a1
    · refine mS_steps (pc' := 23) (ls' := [.ref 222, .int a1, .int a2, .int a3, mU]) (st' := [.int a3, .int a2, .ref 222]) (mem' := (mk x y)) 3 rfl ?_
      refine mS_bind (fun q1 hq1 => mS_call 121 3 [.ref 222, .int a2, .int a3] [] rfl rfl rfl ⟨_, _, _, rfl, rfl⟩ (Nat.le_of_ble_eq_true rfl) (Nat.le_of_ble_eq_true rfl) hq1 (f_X3_linkOf_222_snd a2 a3 x y) ?_)
      refine mS_steps (pc' := 31) (ls' := [.ref 222, .int a1, .int a2, .int a3, .int q1]) (st' := [.int (-1 : Int32), .int q1]) (mem' := (mk x y)) 3 rfl ?_
      refine mS_ic0 rfl (fun _ => ?_) (fun _ => ?_)
      · refine mS_steps (pc' := 14) (ls' := [.ref 222, .int a1, .int a2, .int (a3 + (1 : Int32)), .int q1]) (st' := []) (mem' := (mk x y)) 2 rfl ?_
        refine mS_forget [.ref 222, .int a1, .int a2, .int (a3 + (1 : Int32)), mU] ⟨Or.inr rfl, Or.inr rfl, Or.inr rfl, Or.inr rfl, Or.inl rfl, trivial⟩ ?_
        exact ih a1 (a3 + (1 : Int32))
      · refine mS_steps (pc' := 40) (ls' := [.ref 222, .int a1, .int a2, .int a3, .int q1]) (st' := [.int q1, .int (x.1 222 3)]) (mem' := (mk x y)) 3 rfl ?_
        refine mS_call (q := (f_X10_has (x.1 222 3) q1)) 57 2 [.int (x.1 222 3), .int q1] [] rfl rfl rfl ⟨_, _, _, rfl, rfl⟩ (Nat.le_of_ble_eq_true rfl) (Nat.le_of_ble_eq_true rfl) rfl (f_X10_has_snd (x.1 222 3) q1 (mk x y)) ?_
        refine mS_steps (pc' := 43) (ls' := [.ref 222, .int a1, .int a2, .int a3, .int q1]) (st' := [.int (f_X10_has (x.1 222 3) q1)]) (mem' := (mk x y)) 0 rfl ?_
        refine mS_if0 rfl (fun _ => ?_) (fun _ => ?_)
        · refine mS_steps (pc' := 14) (ls' := [.ref 222, .int a1, .int a2, .int (a3 + (1 : Int32)), .int q1]) (st' := []) (mem' := (mk x y)) 2 rfl ?_
          refine mS_forget [.ref 222, .int a1, .int a2, .int (a3 + (1 : Int32)), mU] ⟨Or.inr rfl, Or.inr rfl, Or.inr rfl, Or.inr rfl, Or.inl rfl, trivial⟩ ?_
          exact ih a1 (a3 + (1 : Int32))
        · refine mS_steps (pc' := 49) (ls' := [.ref 222, .int a1, .int a2, .int a3, .int q1]) (st' := [.int a3, .int a2, .ref 222]) (mem' := (mk x y)) 3 rfl ?_
          refine mS_bind (fun q2 hq2 => mS_call 125 3 [.ref 222, .int a2, .int a3] [] rfl rfl rfl ⟨_, _, _, rfl, rfl⟩ (Nat.le_of_ble_eq_true rfl) (Nat.le_of_ble_eq_true rfl) hq2 (f_X3_blockOf_222_snd a2 a3 x y) ?_)
          refine mS_steps (pc' := 59) (ls' := [.ref 222, .int a1, .int a2, .int a3, .int q1]) (st' := [.int (((1 : Int32) <<< (a2 &&& 31)) ||| ((1 : Int32) <<< (a3 &&& 31))), .int q2]) (mem' := (mk x y)) 7 rfl ?_
          refine mS_ic1 rfl (fun _ => ?_) (fun _ => ?_)
          · refine mS_steps (pc' := 14) (ls' := [.ref 222, .int (a1 ||| ((1 : Int32) <<< (q1 &&& 31))), .int a2, .int (a3 + (1 : Int32)), .int q1]) (st' := []) (mem' := (mk x y)) 8 rfl ?_
            refine mS_forget [.ref 222, .int (a1 ||| ((1 : Int32) <<< (q1 &&& 31))), .int a2, .int (a3 + (1 : Int32)), mU] ⟨Or.inr rfl, Or.inr rfl, Or.inr rfl, Or.inr rfl, Or.inl rfl, trivial⟩ ?_
            exact ih (a1 ||| ((1 : Int32) <<< (q1 &&& 31))) (a3 + (1 : Int32))
          · refine mS_steps (pc' := 14) (ls' := [.ref 222, .int a1, .int a2, .int (a3 + (1 : Int32)), .int q1]) (st' := []) (mem' := (mk x y)) 2 rfl ?_
            refine mS_forget [.ref 222, .int a1, .int a2, .int (a3 + (1 : Int32)), mU] ⟨Or.inr rfl, Or.inr rfl, Or.inr rfl, Or.inr rfl, Or.inl rfl, trivial⟩ ?_
            exact ih a1 (a3 + (1 : Int32))
set_option maxRecDepth 20000 in
set_option maxHeartbeats 2000000 in
theorem f_X3_bridgeLinks_L4_222_snd {fm : Value} {L : Nat} {xs : Nat → Int32} (x : mX) (y : mY) : ∀ (n : Nat) (a1 : Int32) (a2 : Int32), mS fm L xs (fun r : Int32 => (.int r, (mk x y))) pg_X3_bridgeLinks 4 [.ref 222, .int a1, .int a2, mU, mU] [] (mk x y) (f_X3_bridgeLinks_L4 222 n a1 a2 x) := by
  intro n
  induction n with
  | zero => intro a1 a2; exact mS_none
  | succ n ih =>
    intro a1 a2
    rw [f_X3_bridgeLinks_L4]
    refine mS_steps (pc' := 7) (ls' := [.ref 222, .int a1, .int a2, mU, mU]) (st' := [.int (8 : Int32), .int a2]) (mem' := (mk x y)) 2 rfl ?_
    refine mS_ic3 rfl (fun _ => ?_) (fun _ => ?_)
    · refine mS_steps (pc' := 82) (ls' := [.ref 222, .int a1, .int a2, mU, mU]) (st' := [.int a1]) (mem' := (mk x y)) 1 rfl ?_
      exact mS_reti ⟨_, _, _, _, _, rfl, rfl⟩ rfl
    · refine mS_steps (pc' := 14) (ls' := [.ref 222, .int a1, .int a2, .int (a2 + (1 : Int32)), mU]) (st' := []) (mem' := (mk x y)) 4 rfl ?_
      refine f_X3_bridgeLinks_L14_222_snd a2 x y _ ?_ mF a1 (a2 + (1 : Int32))
      · intro v3
        refine mS_steps (pc' := 4) (ls' := [.ref 222, .int v3, .int (a2 + (1 : Int32)), mU, mU]) (st' := []) (mem' := (mk x y)) 2 rfl ?_
        exact ih v3 (a2 + (1 : Int32))
set_option maxRecDepth 20000 in
set_option maxHeartbeats 2000000 in
theorem f_X3_bridgeLinks_222_snd {fm : Value} {L : Nat} {xs : Nat → Int32} (x : mX) (y : mY) : mS fm L xs (fun r : Int32 => (.int r, (mk x y))) pg_X3_bridgeLinks 0 (m_entry [.ref 222] 5) [] (mk x y) ((f_X3_bridgeLinks 222 x)) := by
  unfold f_X3_bridgeLinks
  refine mS_steps (pc' := 0) (ls' := [.ref 222, mU, mU, mU, mU]) (st' := []) (mem' := (mk x y)) 0 rfl ?_
  refine mS_steps (pc' := 4) (ls' := [.ref 222, .int (0 : Int32), .int (0 : Int32), mU, mU]) (st' := []) (mem' := (mk x y)) 4 rfl ?_
  refine f_X3_bridgeLinks_L4_222_snd x y mF (0 : Int32) (0 : Int32)
set_option maxRecDepth 20000 in
set_option maxHeartbeats 2000000 in
theorem f_X3_bridgeLinks_L14_228_snd {fm : Value} {L : Nat} {xs : Nat → Int32} (a2 : Int32) (x : mX) (y : mY) (k75 : Int32 → Option Int32) (hk75 : ∀ (b1 : Int32), mS fm L xs (fun r : Int32 => (.int r, (mk x y))) pg_X3_bridgeLinks 75 [.ref 228, .int b1, .int a2, mU, mU] [] (mk x y) (k75 b1)) : ∀ (n : Nat) (a1 : Int32) (a3 : Int32), mS fm L xs (fun r : Int32 => (.int r, (mk x y))) pg_X3_bridgeLinks 14 [.ref 228, .int a1, .int a2, .int a3, mU] [] (mk x y) (f_X3_bridgeLinks_L14 228 a2 n a1 a3 x k75) := by
  intro n
  induction n with
  | zero => intro a1 a3; exact mS_none
  | succ n ih =>
    intro a1 a3
    rw [f_X3_bridgeLinks_L14]
    refine mS_steps (pc' := 17) (ls' := [.ref 228, .int a1, .int a2, .int a3, mU]) (st' := [.int (8 : Int32), .int a3]) (mem' := (mk x y)) 2 rfl ?_
    refine mS_ic3 rfl (fun _ => ?_) (fun _ => ?_)
    · refine mS_forget [.ref 228, .int a1, .int a2, mU, mU] ⟨Or.inr rfl, Or.inr rfl, Or.inr rfl, Or.inl rfl, Or.inl rfl, trivial⟩ ?_
      exact hk75 a1
    · refine mS_steps (pc' := 23) (ls' := [.ref 228, .int a1, .int a2, .int a3, mU]) (st' := [.int a3, .int a2, .ref 228]) (mem' := (mk x y)) 3 rfl ?_
      refine mS_bind (fun q1 hq1 => mS_call 121 3 [.ref 228, .int a2, .int a3] [] rfl rfl rfl ⟨_, _, _, rfl, rfl⟩ (Nat.le_of_ble_eq_true rfl) (Nat.le_of_ble_eq_true rfl) hq1 (f_X3_linkOf_228_snd a2 a3 x y) ?_)
      refine mS_steps (pc' := 31) (ls' := [.ref 228, .int a1, .int a2, .int a3, .int q1]) (st' := [.int (-1 : Int32), .int q1]) (mem' := (mk x y)) 3 rfl ?_
      refine mS_ic0 rfl (fun _ => ?_) (fun _ => ?_)
      · refine mS_steps (pc' := 14) (ls' := [.ref 228, .int a1, .int a2, .int (a3 + (1 : Int32)), .int q1]) (st' := []) (mem' := (mk x y)) 2 rfl ?_
        refine mS_forget [.ref 228, .int a1, .int a2, .int (a3 + (1 : Int32)), mU] ⟨Or.inr rfl, Or.inr rfl, Or.inr rfl, Or.inr rfl, Or.inl rfl, trivial⟩ ?_
        exact ih a1 (a3 + (1 : Int32))
      · refine mS_steps (pc' := 40) (ls' := [.ref 228, .int a1, .int a2, .int a3, .int q1]) (st' := [.int q1, .int (x.1 228 3)]) (mem' := (mk x y)) 3 rfl ?_
        refine mS_call (q := (f_X10_has (x.1 228 3) q1)) 57 2 [.int (x.1 228 3), .int q1] [] rfl rfl rfl ⟨_, _, _, rfl, rfl⟩ (Nat.le_of_ble_eq_true rfl) (Nat.le_of_ble_eq_true rfl) rfl (f_X10_has_snd (x.1 228 3) q1 (mk x y)) ?_
        refine mS_steps (pc' := 43) (ls' := [.ref 228, .int a1, .int a2, .int a3, .int q1]) (st' := [.int (f_X10_has (x.1 228 3) q1)]) (mem' := (mk x y)) 0 rfl ?_
        refine mS_if0 rfl (fun _ => ?_) (fun _ => ?_)
        · refine mS_steps (pc' := 14) (ls' := [.ref 228, .int a1, .int a2, .int (a3 + (1 : Int32)), .int q1]) (st' := []) (mem' := (mk x y)) 2 rfl ?_
          refine mS_forget [.ref 228, .int a1, .int a2, .int (a3 + (1 : Int32)), mU] ⟨Or.inr rfl, Or.inr rfl, Or.inr rfl, Or.inr rfl, Or.inl rfl, trivial⟩ ?_
          exact ih a1 (a3 + (1 : Int32))
        · refine mS_steps (pc' := 49) (ls' := [.ref 228, .int a1, .int a2, .int a3, .int q1]) (st' := [.int a3, .int a2, .ref 228]) (mem' := (mk x y)) 3 rfl ?_
          refine mS_bind (fun q2 hq2 => mS_call 125 3 [.ref 228, .int a2, .int a3] [] rfl rfl rfl ⟨_, _, _, rfl, rfl⟩ (Nat.le_of_ble_eq_true rfl) (Nat.le_of_ble_eq_true rfl) hq2 (f_X3_blockOf_228_snd a2 a3 x y) ?_)
          refine mS_steps (pc' := 59) (ls' := [.ref 228, .int a1, .int a2, .int a3, .int q1]) (st' := [.int (((1 : Int32) <<< (a2 &&& 31)) ||| ((1 : Int32) <<< (a3 &&& 31))), .int q2]) (mem' := (mk x y)) 7 rfl ?_
          refine mS_ic1 rfl (fun _ => ?_) (fun _ => ?_)
          · refine mS_steps (pc' := 14) (ls' := [.ref 228, .int (a1 ||| ((1 : Int32) <<< (q1 &&& 31))), .int a2, .int (a3 + (1 : Int32)), .int q1]) (st' := []) (mem' := (mk x y)) 8 rfl ?_
            refine mS_forget [.ref 228, .int (a1 ||| ((1 : Int32) <<< (q1 &&& 31))), .int a2, .int (a3 + (1 : Int32)), mU] ⟨Or.inr rfl, Or.inr rfl, Or.inr rfl, Or.inr rfl, Or.inl rfl, trivial⟩ ?_
            exact ih (a1 ||| ((1 : Int32) <<< (q1 &&& 31))) (a3 + (1 : Int32))
          · refine mS_steps (pc' := 14) (ls' := [.ref 228, .int a1, .int a2, .int (a3 + (1 : Int32)), .int q1]) (st' := []) (mem' := (mk x y)) 2 rfl ?_
            refine mS_forget [.ref 228, .int a1, .int a2, .int (a3 + (1 : Int32)), mU] ⟨Or.inr rfl, Or.inr rfl, Or.inr rfl, Or.inr rfl, Or.inl rfl, trivial⟩ ?_
            exact ih a1 (a3 + (1 : Int32))
set_option maxRecDepth 20000 in
set_option maxHeartbeats 2000000 in
theorem f_X3_bridgeLinks_L4_228_snd {fm : Value} {L : Nat} {xs : Nat → Int32} (x : mX) (y : mY) : ∀ (n : Nat) (a1 : Int32) (a2 : Int32), mS fm L xs (fun r : Int32 => (.int r, (mk x y))) pg_X3_bridgeLinks 4 [.ref 228, .int a1, .int a2, mU, mU] [] (mk x y) (f_X3_bridgeLinks_L4 228 n a1 a2 x) := by
  intro n
  induction n with
  | zero => intro a1 a2; exact mS_none
  | succ n ih =>
    intro a1 a2
    rw [f_X3_bridgeLinks_L4]
    refine mS_steps (pc' := 7) (ls' := [.ref 228, .int a1, .int a2, mU, mU]) (st' := [.int (8 : Int32), .int a2]) (mem' := (mk x y)) 2 rfl ?_
    refine mS_ic3 rfl (fun _ => ?_) (fun _ => ?_)
    · refine mS_steps (pc' := 82) (ls' := [.ref 228, .int a1, .int a2, mU, mU]) (st' := [.int a1]) (mem' := (mk x y)) 1 rfl ?_
      exact mS_reti ⟨_, _, _, _, _, rfl, rfl⟩ rfl
    · refine mS_steps (pc' := 14) (ls' := [.ref 228, .int a1, .int a2, .int (a2 + (1 : Int32)), mU]) (st' := []) (mem' := (mk x y)) 4 rfl ?_
      refine f_X3_bridgeLinks_L14_228_snd a2 x y _ ?_ mF a1 (a2 + (1 : Int32))
      · intro v3
        refine mS_steps (pc' := 4) (ls' := [.ref 228, .int v3, .int (a2 + (1 : Int32)), mU, mU]) (st' := []) (mem' := (mk x y)) 2 rfl ?_
        exact ih v3 (a2 + (1 : Int32))
set_option maxRecDepth 20000 in
set_option maxHeartbeats 2000000 in
theorem f_X3_bridgeLinks_228_snd {fm : Value} {L : Nat} {xs : Nat → Int32} (x : mX) (y : mY) : mS fm L xs (fun r : Int32 => (.int r, (mk x y))) pg_X3_bridgeLinks 0 (m_entry [.ref 228] 5) [] (mk x y) ((f_X3_bridgeLinks 228 x)) := by
  unfold f_X3_bridgeLinks
  refine mS_steps (pc' := 0) (ls' := [.ref 228, mU, mU, mU, mU]) (st' := []) (mem' := (mk x y)) 0 rfl ?_
  refine mS_steps (pc' := 4) (ls' := [.ref 228, .int (0 : Int32), .int (0 : Int32), mU, mU]) (st' := []) (mem' := (mk x y)) 4 rfl ?_
  refine f_X3_bridgeLinks_L4_228_snd x y mF (0 : Int32) (0 : Int32)
def f_X10_bridges (p1 : Int32) (x : mX) : Option (Int32 × mX) := (if (f_X10_isNet p1) = 0 then (some ((-1 : Int32), x)) else ((f_X10_netOf p1 x).bind fun q1 => (if q1.1 = 222 then ((f_X3_bridgeLinks 222 q1.2).bind fun q2 => (some (q2, q1.2))) else (if q1.1 = 228 then ((f_X3_bridgeLinks 228 q1.2).bind fun q3 => (some (q3, q1.2))) else none))))
set_option maxRecDepth 20000 in
set_option maxHeartbeats 2000000 in
theorem f_X10_bridges_snd {fm : Value} {L : Nat} {xs : Nat → Int32} (p1 : Int32) (x : mX) (y : mY) : mS fm L xs (fun r : (Int32 × mX) => (.int r.1, mk r.2 y)) pg_X10_bridges 0 (m_entry [.ref 0, .int p1] 2) [] (mk x y) ((f_X10_bridges p1 x)) := by
  unfold f_X10_bridges
  refine mS_steps (pc' := 0) (ls' := [.ref 0, .int p1]) (st' := []) (mem' := (mk x y)) 0 rfl ?_
  refine mS_steps (pc' := 1) (ls' := [.ref 0, .int p1]) (st' := [.int p1]) (mem' := (mk x y)) 1 rfl ?_
  refine mS_call (q := (f_X10_isNet p1)) 166 1 [.int p1] [] rfl rfl rfl ⟨_, _, _, rfl, rfl⟩ (Nat.le_of_ble_eq_true rfl) (Nat.le_of_ble_eq_true rfl) rfl (f_X10_isNet_snd p1 (mk x y)) ?_
  refine mS_steps (pc' := 4) (ls' := [.ref 0, .int p1]) (st' := [.int (f_X10_isNet p1)]) (mem' := (mk x y)) 0 rfl ?_
  refine mS_if0 rfl (fun _ => ?_) (fun _ => ?_)
  · refine mS_steps (pc' := 19) (ls' := [.ref 0, .int p1]) (st' := [.int (-1 : Int32)]) (mem' := (mk x y)) 1 rfl ?_
    exact mS_reti ⟨_, _, _, _, _, rfl, rfl⟩ rfl
  · refine mS_steps (pc' := 9) (ls' := [.ref 0, .int p1]) (st' := [.int p1, .ref 0]) (mem' := (mk x y)) 2 rfl ?_
    refine mS_bind (fun q1 hq1 => mS_call 169 2 [.ref 0, .int p1] [] rfl rfl rfl ⟨_, _, _, rfl, rfl⟩ (Nat.le_of_ble_eq_true rfl) (Nat.le_of_ble_eq_true rfl) hq1 (f_X10_netOf_snd p1 x y) ?_)
    refine mS_steps (pc' := 12) (ls' := [.ref 0, .int p1]) (st' := [.ref q1.1]) (mem' := (mk q1.2 y)) 0 rfl ?_
    refine mS_ite (fun hc => ?_) (fun _ => ?_)
    · rw [hc]
      refine mS_steps (pc' := 12) (ls' := [.ref 0, .int p1]) (st' := [.ref 222]) (mem' := (mk q1.2 y)) 0 rfl ?_
      refine mS_bind (fun q2 hq2 => mS_call 183 1 [.ref 222] [] rfl rfl rfl ⟨_, _, _, rfl, rfl⟩ (Nat.le_of_ble_eq_true rfl) (Nat.le_of_ble_eq_true rfl) hq2 (f_X3_bridgeLinks_222_snd  q1.2 y) ?_)
      refine mS_steps (pc' := 19) (ls' := [.ref 0, .int p1]) (st' := [.int q2]) (mem' := (mk q1.2 y)) 1 rfl ?_
      exact mS_reti ⟨_, _, _, _, _, rfl, rfl⟩ rfl
    refine mS_ite (fun hc => ?_) (fun _ => ?_)
    · rw [hc]
      refine mS_steps (pc' := 12) (ls' := [.ref 0, .int p1]) (st' := [.ref 228]) (mem' := (mk q1.2 y)) 0 rfl ?_
      refine mS_bind (fun q3 hq3 => mS_call 183 1 [.ref 228] [] rfl rfl rfl ⟨_, _, _, rfl, rfl⟩ (Nat.le_of_ble_eq_true rfl) (Nat.le_of_ble_eq_true rfl) hq3 (f_X3_bridgeLinks_228_snd  q1.2 y) ?_)
      refine mS_steps (pc' := 19) (ls' := [.ref 0, .int p1]) (st' := [.int q3]) (mem' := (mk q1.2 y)) 1 rfl ?_
      exact mS_reti ⟨_, _, _, _, _, rfl, rfl⟩ rfl
    exact mS_none
def f_X11_bridges_L47 (a2 : Int32) (a3 : Int32) (a4 : Int32) : Nat → Int32 → Int32 → mY → Option (Int32 × mY)
  | 0, _, _, _ => none
  | n + 1, a5, a6, y => (if (y.1 289 4) ≤ a6 then (some (a5, y)) else (if (f_X11_has a3 a6) = 0 then (f_X11_bridges_L47 a2 a3 a4 n a5 (a6 + (1 : Int32)) y) else ((f_X11_lays_ (2 : Int32) (a3 &&& (((1 : Int32) <<< (a6 &&& 31)) ^^^ (-1 : Int32))) y).bind fun q6 => ((f_X11_piecesOf (2 : Int32) a2 q6).bind fun q7 => (if q7 ≤ a4 then (f_X11_bridges_L47 a2 a3 a4 n a5 (a6 + (1 : Int32)) q6) else (f_X11_bridges_L47 a2 a3 a4 n (a5 ||| ((1 : Int32) <<< (a6 &&& 31))) (a6 + (1 : Int32)) q6))))))
def f_X11_bridges (p1 : Int32) (y : mY) : Option (Int32 × mY) := ((f_X11_isWhich p1).bind fun q1 => (if q1 = 0 then (some ((-1 : Int32), y)) else ((f_X11_laysNet p1 y).bind fun q2 => (m_jn (fun w4 => ((f_X11_piecesOf p1 q2.1 q2.2).bind fun q5 => (f_X11_bridges_L47 q2.1 w4 q5 mF (0 : Int32) (0 : Int32) q2.2))) (fun j3 => if p1 = 0 then ((f_X11_netLinks q2.2).bind fun q8 => (j3 q8)) else (j3 (q2.2.1 289 3)))))))
set_option maxRecDepth 20000 in
set_option maxHeartbeats 2000000 in
theorem f_X11_bridges_L47_snd {fm : Value} {L : Nat} {xs : Nat → Int32} (a2 : Int32) (a3 : Int32) (a4 : Int32) (x : mX) : ∀ (n : Nat) (a5 : Int32) (a6 : Int32) (y : mY), mS fm L xs (fun r : (Int32 × mY) => (.int r.1, mk x r.2)) pg_X11_bridges 47 [.ref 279, mU, .int a2, .int a3, .int a4, .int a5, .int a6] [] (mk x y) (f_X11_bridges_L47 a2 a3 a4 n a5 a6 y) := by
  intro n
  induction n with
  | zero => intro a5 a6 y; exact mS_none
  | succ n ih =>
    intro a5 a6 y
    rw [f_X11_bridges_L47]
    refine mS_steps (pc' := 54) (ls' := [.ref 279, mU, .int a2, .int a3, .int a4, .int a5, .int a6]) (st' := [.int (4 : Int32), .ref 289, .int a6]) (mem' := (mk x y)) 4 rfl ?_
    refine mS_aldc (b := 0) (n := 72) (c := 4) (z := (y.1 289 4)) rfl (by decide) rfl (by decide) (by decide) (by decide) rfl ?_
    refine mS_ic3 rfl (fun _ => ?_) (fun _ => ?_)
    · refine mS_steps (pc' := 111) (ls' := [.ref 279, mU, .int a2, .int a3, .int a4, .int a5, .int a6]) (st' := [.int a5]) (mem' := (mk x y)) 1 rfl ?_
      exact mS_reti ⟨_, _, _, _, _, rfl, rfl⟩ rfl
    · refine mS_steps (pc' := 61) (ls' := [.ref 279, mU, .int a2, .int a3, .int a4, .int a5, .int a6]) (st' := [.int a6, .int a3]) (mem' := (mk x y)) 2 rfl ?_
      refine mS_call (q := (f_X11_has a3 a6)) 87 2 [.int a3, .int a6] [] rfl rfl rfl ⟨_, _, _, rfl, rfl⟩ (Nat.le_of_ble_eq_true rfl) (Nat.le_of_ble_eq_true rfl) rfl (f_X11_has_snd a3 a6 (mk x y)) ?_
      refine mS_steps (pc' := 64) (ls' := [.ref 279, mU, .int a2, .int a3, .int a4, .int a5, .int a6]) (st' := [.int (f_X11_has a3 a6)]) (mem' := (mk x y)) 0 rfl ?_
      refine mS_if1 rfl (fun _ => ?_) (fun _ => ?_)
      · refine mS_steps (pc' := 47) (ls' := [.ref 279, mU, .int a2, .int a3, .int a4, .int a5, .int (a6 + (1 : Int32))]) (st' := []) (mem' := (mk x y)) 3 rfl ?_
        exact ih a5 (a6 + (1 : Int32)) y
      · refine mS_steps (pc' := 80) (ls' := [.ref 279, mU, .int a2, .int a3, .int a4, .int a5, .int a6]) (st' := [.int (a3 &&& (((1 : Int32) <<< (a6 &&& 31)) ^^^ (-1 : Int32))), .int (2 : Int32), .ref 279]) (mem' := (mk x y)) 9 rfl ?_
        refine mS_bind (fun q6 hq6 => mS_call 142 3 [.ref 279, .int (2 : Int32), .int (a3 &&& (((1 : Int32) <<< (a6 &&& 31)) ^^^ (-1 : Int32)))] [] rfl rfl rfl ⟨_, _, _, rfl, rfl⟩ (Nat.le_of_ble_eq_true rfl) (Nat.le_of_ble_eq_true rfl) hq6 (f_X11_lays__snd (2 : Int32) (a3 &&& (((1 : Int32) <<< (a6 &&& 31)) ^^^ (-1 : Int32))) y x) ?_)
        refine mS_steps (pc' := 86) (ls' := [.ref 279, mU, .int a2, .int a3, .int a4, .int a5, .int a6]) (st' := [.int a2, .int (2 : Int32), .ref 279]) (mem' := (mk x q6)) 3 rfl ?_
        refine mS_bind (fun q7 hq7 => mS_call 181 3 [.ref 279, .int (2 : Int32), .int a2] [] rfl rfl rfl ⟨_, _, _, rfl, rfl⟩ (Nat.le_of_ble_eq_true rfl) (Nat.le_of_ble_eq_true rfl) hq7 (f_X11_piecesOf_snd (2 : Int32) a2 q6 x) ?_)
        refine mS_steps (pc' := 91) (ls' := [.ref 279, mU, .int a2, .int a3, .int a4, .int a5, .int a6]) (st' := [.int a4, .int q7]) (mem' := (mk x q6)) 1 rfl ?_
        refine mS_ic5 rfl (fun _ => ?_) (fun _ => ?_)
        · refine mS_steps (pc' := 47) (ls' := [.ref 279, mU, .int a2, .int a3, .int a4, .int a5, .int (a6 + (1 : Int32))]) (st' := []) (mem' := (mk x q6)) 2 rfl ?_
          exact ih a5 (a6 + (1 : Int32)) q6
        · refine mS_steps (pc' := 47) (ls' := [.ref 279, mU, .int a2, .int a3, .int a4, .int (a5 ||| ((1 : Int32) <<< (a6 &&& 31))), .int (a6 + (1 : Int32))]) (st' := []) (mem' := (mk x q6)) 8 rfl ?_
          exact ih (a5 ||| ((1 : Int32) <<< (a6 &&& 31))) (a6 + (1 : Int32)) q6
set_option maxRecDepth 20000 in
set_option maxHeartbeats 2000000 in
theorem f_X11_bridges_snd {fm : Value} {L : Nat} {xs : Nat → Int32} (p1 : Int32) (y : mY) (x : mX) : mS fm L xs (fun r : (Int32 × mY) => (.int r.1, mk x r.2)) pg_X11_bridges 0 (m_entry [.ref 279, .int p1] 7) [] (mk x y) ((f_X11_bridges p1 y)) := by
  unfold f_X11_bridges
  refine mS_steps (pc' := 0) (ls' := [.ref 279, .int p1, mU, mU, mU, mU, mU]) (st' := []) (mem' := (mk x y)) 0 rfl ?_
  refine mS_steps (pc' := 1) (ls' := [.ref 279, .int p1, mU, mU, mU, mU, mU]) (st' := [.int p1]) (mem' := (mk x y)) 1 rfl ?_
  refine mS_bind (fun q1 hq1 => mS_call 173 1 [.int p1] [] rfl rfl rfl ⟨_, _, _, rfl, rfl⟩ (Nat.le_of_ble_eq_true rfl) (Nat.le_of_ble_eq_true rfl) hq1 (f_X11_isWhich_snd p1 (mk x y)) ?_)
  refine mS_steps (pc' := 4) (ls' := [.ref 279, .int p1, mU, mU, mU, mU, mU]) (st' := [.int q1]) (mem' := (mk x y)) 0 rfl ?_
  refine mS_if1 rfl (fun _ => ?_) (fun _ => ?_)
  · refine mS_steps (pc' := 8) (ls' := [.ref 279, .int p1, mU, mU, mU, mU, mU]) (st' := [.int (-1 : Int32)]) (mem' := (mk x y)) 1 rfl ?_
    exact mS_reti ⟨_, _, _, _, _, rfl, rfl⟩ rfl
  · refine mS_steps (pc' := 11) (ls' := [.ref 279, .int p1, mU, mU, mU, mU, mU]) (st' := [.int p1, .ref 279]) (mem' := (mk x y)) 2 rfl ?_
    refine mS_bind (fun q2 hq2 => mS_call 143 2 [.ref 279, .int p1] [] rfl rfl rfl ⟨_, _, _, rfl, rfl⟩ (Nat.le_of_ble_eq_true rfl) (Nat.le_of_ble_eq_true rfl) hq2 (f_X11_laysNet_snd p1 y x) ?_)
    refine mS_steps (pc' := 16) (ls' := [.ref 279, .int p1, .int q2.1, mU, mU, mU, mU]) (st' := [.int p1]) (mem' := (mk x q2.2)) 2 rfl ?_
    refine mS_jn (fun j => ∀ z : Int32, mS fm L xs (fun r : (Int32 × mY) => (.int r.1, mk x r.2)) pg_X11_bridges 32 [.ref 279, .int p1, .int q2.1, mU, mU, mU, mU] [.int z] (mk x q2.2) (j z)) ?_ ?_
    · intro z
      revert z; intro w4
      refine mS_steps (pc' := 36) (ls' := [.ref 279, .int p1, .int q2.1, .int w4, mU, mU, mU]) (st' := [.int q2.1, .int p1, .ref 279]) (mem' := (mk x q2.2)) 4 rfl ?_
      refine mS_bind (fun q5 hq5 => mS_call 181 3 [.ref 279, .int p1, .int q2.1] [] rfl rfl rfl ⟨_, _, _, rfl, rfl⟩ (Nat.le_of_ble_eq_true rfl) (Nat.le_of_ble_eq_true rfl) hq5 (f_X11_piecesOf_snd p1 q2.1 q2.2 x) ?_)
      refine mS_steps (pc' := 47) (ls' := [.ref 279, .int p1, .int q2.1, .int w4, .int q5, .int (0 : Int32), .int (0 : Int32)]) (st' := []) (mem' := (mk x q2.2)) 5 rfl ?_
      refine mS_forget [.ref 279, mU, .int q2.1, .int w4, .int q5, .int (0 : Int32), .int (0 : Int32)] ⟨Or.inr rfl, Or.inl rfl, Or.inr rfl, Or.inr rfl, Or.inr rfl, Or.inr rfl, Or.inr rfl, trivial⟩ ?_
      refine f_X11_bridges_L47_snd q2.1 w4 q5 x mF (0 : Int32) (0 : Int32) q2.2
    intro j3 hj3
    refine mS_if1 rfl (fun _ => ?_) (fun _ => ?_)
    · refine mS_steps (pc' := 20) (ls' := [.ref 279, .int p1, .int q2.1, mU, mU, mU, mU]) (st' := [.ref 279]) (mem' := (mk x q2.2)) 1 rfl ?_
      refine mS_bind (fun q8 hq8 => mS_call 89 1 [.ref 279] [] rfl rfl rfl ⟨_, _, _, rfl, rfl⟩ (Nat.le_of_ble_eq_true rfl) (Nat.le_of_ble_eq_true rfl) hq8 (f_X11_netLinks_snd  q2.2 x) ?_)
      refine mS_steps (pc' := 32) (ls' := [.ref 279, .int p1, .int q2.1, mU, mU, mU, mU]) (st' := [.int q8]) (mem' := (mk x q2.2)) 1 rfl ?_
      exact hj3 q8
    · refine mS_steps (pc' := 31) (ls' := [.ref 279, .int p1, .int q2.1, mU, mU, mU, mU]) (st' := [.int (3 : Int32), .ref 289]) (mem' := (mk x q2.2)) 3 rfl ?_
      refine mS_aldc (b := 0) (n := 72) (c := 3) (z := (q2.2.1 289 3)) rfl (by decide) rfl (by decide) (by decide) (by decide) rfl ?_
      exact hj3 (q2.2.1 289 3)
def f_X10_hasWay (p1 : Int32) (p2 : Int32) (x : mX) : Option (Int32 × mX) := (if (f_X10_isPost p1 x) = 0 then (some ((0 : Int32), x)) else (if (f_X10_isPost p2 x) = 0 then (some ((0 : Int32), x)) else (if p1 = p2 then (some ((0 : Int32), x)) else ((f_X10_learntNet x).bind fun q1 => (if q1.1 = 228 then (if m_in p1 8 = true then (if (f_X10_has (q1.2.1 230 p1.toNatClampNeg) p2) = 0 then (some ((0 : Int32), q1.2)) else ((f_X7_prepare p1 q1.2).bind fun q2 => (some ((1 : Int32), q2)))) else none) else none)))))
set_option maxRecDepth 20000 in
set_option maxHeartbeats 2000000 in
theorem f_X10_hasWay_snd {fm : Value} {L : Nat} {xs : Nat → Int32} (p1 : Int32) (p2 : Int32) (x : mX) (y : mY) : mS fm L xs (fun r : (Int32 × mX) => (.int r.1, mk r.2 y)) pg_X10_hasWay 0 (m_entry [.ref 0, .int p1, .int p2] 3) [] (mk x y) ((f_X10_hasWay p1 p2 x)) := by
  unfold f_X10_hasWay
  refine mS_steps (pc' := 0) (ls' := [.ref 0, .int p1, .int p2]) (st' := []) (mem' := (mk x y)) 0 rfl ?_
  refine mS_steps (pc' := 2) (ls' := [.ref 0, .int p1, .int p2]) (st' := [.int p1, .ref 0]) (mem' := (mk x y)) 2 rfl ?_
  refine mS_call (q := (f_X10_isPost p1 x)) 102 2 [.ref 0, .int p1] [] rfl rfl rfl ⟨_, _, _, rfl, rfl⟩ (Nat.le_of_ble_eq_true rfl) (Nat.le_of_ble_eq_true rfl) rfl (f_X10_isPost_snd p1 x y) ?_
  refine mS_steps (pc' := 5) (ls' := [.ref 0, .int p1, .int p2]) (st' := [.int (f_X10_isPost p1 x)]) (mem' := (mk x y)) 0 rfl ?_
  refine mS_if0 rfl (fun _ => ?_) (fun _ => ?_)
  · refine mS_steps (pc' := 38) (ls' := [.ref 0, .int p1, .int p2]) (st' := [.int (0 : Int32)]) (mem' := (mk x y)) 1 rfl ?_
    exact mS_reti ⟨_, _, _, _, _, rfl, (by decide)⟩ rfl
  · refine mS_steps (pc' := 10) (ls' := [.ref 0, .int p1, .int p2]) (st' := [.int p2, .ref 0]) (mem' := (mk x y)) 2 rfl ?_
    refine mS_call (q := (f_X10_isPost p2 x)) 102 2 [.ref 0, .int p2] [] rfl rfl rfl ⟨_, _, _, rfl, rfl⟩ (Nat.le_of_ble_eq_true rfl) (Nat.le_of_ble_eq_true rfl) rfl (f_X10_isPost_snd p2 x y) ?_
    refine mS_steps (pc' := 13) (ls' := [.ref 0, .int p1, .int p2]) (st' := [.int (f_X10_isPost p2 x)]) (mem' := (mk x y)) 0 rfl ?_
    refine mS_if0 rfl (fun _ => ?_) (fun _ => ?_)
    · refine mS_steps (pc' := 38) (ls' := [.ref 0, .int p1, .int p2]) (st' := [.int (0 : Int32)]) (mem' := (mk x y)) 1 rfl ?_
      exact mS_reti ⟨_, _, _, _, _, rfl, (by decide)⟩ rfl
    · refine mS_steps (pc' := 18) (ls' := [.ref 0, .int p1, .int p2]) (st' := [.int p2, .int p1]) (mem' := (mk x y)) 2 rfl ?_
      refine mS_ic0 rfl (fun _ => ?_) (fun _ => ?_)
      · refine mS_steps (pc' := 38) (ls' := [.ref 0, .int p1, .int p2]) (st' := [.int (0 : Int32)]) (mem' := (mk x y)) 1 rfl ?_
        exact mS_reti ⟨_, _, _, _, _, rfl, (by decide)⟩ rfl
      · refine mS_steps (pc' := 22) (ls' := [.ref 0, .int p1, .int p2]) (st' := [.ref 0]) (mem' := (mk x y)) 1 rfl ?_
        refine mS_bind (fun q1 hq1 => mS_call 119 1 [.ref 0] [] rfl rfl rfl ⟨_, _, _, rfl, rfl⟩ (Nat.le_of_ble_eq_true rfl) (Nat.le_of_ble_eq_true rfl) hq1 (f_X10_learntNet_snd  x y) ?_)
        refine mS_steps (pc' := 25) (ls' := [.ref 0, .int p1, .int p2]) (st' := .ref q1.1 :: []) (mem' := (mk q1.2 y)) 0 rfl ?_
        refine mS_guard (fun hrq1 => ?_)
        rw [hrq1]
        refine mS_steps (pc' := 29) (ls' := [.ref 0, .int p1, .int p2]) (st' := [.int p1, .ref 230]) (mem' := (mk q1.2 y)) 2 rfl ?_
        refine mS_ald (b := 0) (n := 8) (z := (q1.2.1 230 p1.toNatClampNeg)) rfl (by decide) rfl (by decide) rfl (fun _ => ?_)
        refine mS_steps (pc' := 31) (ls' := [.ref 0, .int p1, .int p2]) (st' := [.int p2, .int (q1.2.1 230 p1.toNatClampNeg)]) (mem' := (mk q1.2 y)) 1 rfl ?_
        refine mS_call (q := (f_X10_has (q1.2.1 230 p1.toNatClampNeg) p2)) 57 2 [.int (q1.2.1 230 p1.toNatClampNeg), .int p2] [] rfl rfl rfl ⟨_, _, _, rfl, rfl⟩ (Nat.le_of_ble_eq_true rfl) (Nat.le_of_ble_eq_true rfl) rfl (f_X10_has_snd (q1.2.1 230 p1.toNatClampNeg) p2 (mk q1.2 y)) ?_
        refine mS_steps (pc' := 34) (ls' := [.ref 0, .int p1, .int p2]) (st' := [.int (f_X10_has (q1.2.1 230 p1.toNatClampNeg) p2)]) (mem' := (mk q1.2 y)) 0 rfl ?_
        refine mS_if1 rfl (fun _ => ?_) (fun _ => ?_)
        · refine mS_steps (pc' := 38) (ls' := [.ref 0, .int p1, .int p2]) (st' := [.int (0 : Int32)]) (mem' := (mk q1.2 y)) 1 rfl ?_
          exact mS_reti ⟨_, _, _, _, _, rfl, (by decide)⟩ rfl
        · refine mS_steps (pc' := 48) (ls' := [.ref 0, .int p1, .int p2]) (st' := [.int p1, .ref 228, .ref 234]) (mem' := (mk q1.2 y)) 5 rfl ?_
          refine mS_bind (fun q2 hq2 => mS_call 134 3 [.ref 234, .ref 228, .int p1] [] rfl rfl rfl ⟨_, _, _, rfl, rfl⟩ (Nat.le_of_ble_eq_true rfl) (Nat.le_of_ble_eq_true rfl) hq2 (f_X7_prepare_snd p1 q1.2 y) ?_)
          refine mS_steps (pc' := 52) (ls' := [.ref 0, .int p1, .int p2]) (st' := [.int (1 : Int32)]) (mem' := (mk q2 y)) 1 rfl ?_
          exact mS_reti ⟨_, _, _, _, _, rfl, (by decide)⟩ rfl
def f_X7_headOf (p1 : Int32) (p2 : Int32) (x : mX) : Option Int32 := (if m_in ((p1 * (8 : Int32)) + p2) 64 = true then (some (x.1 236 ((p1 * (8 : Int32)) + p2).toNatClampNeg)) else none)
set_option maxRecDepth 20000 in
set_option maxHeartbeats 2000000 in
theorem f_X7_headOf_snd {fm : Value} {L : Nat} {xs : Nat → Int32} (p1 : Int32) (p2 : Int32) (x : mX) (y : mY) : mS fm L xs (fun r : Int32 => (.int r, (mk x y))) pg_X7_headOf 0 (m_entry [.ref 234, .int p1, .int p2] 3) [] (mk x y) ((f_X7_headOf p1 p2 x)) := by
  unfold f_X7_headOf
  refine mS_steps (pc' := 0) (ls' := [.ref 234, .int p1, .int p2]) (st' := []) (mem' := (mk x y)) 0 rfl ?_
  refine mS_steps (pc' := 10) (ls' := [.ref 234, .int p1, .int p2]) (st' := [.int ((p1 * (8 : Int32)) + p2), .ref 236]) (mem' := (mk x y)) 7 rfl ?_
  refine mS_ald (b := 0) (n := 64) (z := (x.1 236 ((p1 * (8 : Int32)) + p2).toNatClampNeg)) rfl (by decide) rfl (by decide) rfl (fun _ => ?_)
  exact mS_reti ⟨_, _, _, _, _, rfl, rfl⟩ rfl
def f_X10_head (p1 : Int32) (p2 : Int32) (x : mX) : Option (Int32 × mX) := ((f_X10_hasWay p1 p2 x).bind fun q1 => (if q1.1 = 0 then (some ((-1 : Int32), q1.2)) else ((f_X7_headOf p1 p2 q1.2).bind fun q2 => (some (q2, q1.2)))))
set_option maxRecDepth 20000 in
set_option maxHeartbeats 2000000 in
theorem f_X10_head_snd {fm : Value} {L : Nat} {xs : Nat → Int32} (p1 : Int32) (p2 : Int32) (x : mX) (y : mY) : mS fm L xs (fun r : (Int32 × mX) => (.int r.1, mk r.2 y)) pg_X10_head 0 (m_entry [.ref 0, .int p1, .int p2] 3) [] (mk x y) ((f_X10_head p1 p2 x)) := by
  unfold f_X10_head
  refine mS_steps (pc' := 0) (ls' := [.ref 0, .int p1, .int p2]) (st' := []) (mem' := (mk x y)) 0 rfl ?_
  refine mS_steps (pc' := 3) (ls' := [.ref 0, .int p1, .int p2]) (st' := [.int p2, .int p1, .ref 0]) (mem' := (mk x y)) 3 rfl ?_
  refine mS_bind (fun q1 hq1 => mS_call 186 3 [.ref 0, .int p1, .int p2] [] rfl rfl rfl ⟨_, _, _, rfl, rfl⟩ (Nat.le_of_ble_eq_true rfl) (Nat.le_of_ble_eq_true rfl) hq1 (f_X10_hasWay_snd p1 p2 x y) ?_)
  refine mS_steps (pc' := 6) (ls' := [.ref 0, .int p1, .int p2]) (st' := [.int q1.1]) (mem' := (mk q1.2 y)) 0 rfl ?_
  refine mS_if0 rfl (fun _ => ?_) (fun _ => ?_)
  · refine mS_steps (pc' := 22) (ls' := [.ref 0, .int p1, .int p2]) (st' := [.int (-1 : Int32)]) (mem' := (mk q1.2 y)) 1 rfl ?_
    exact mS_reti ⟨_, _, _, _, _, rfl, rfl⟩ rfl
  · refine mS_steps (pc' := 15) (ls' := [.ref 0, .int p1, .int p2]) (st' := [.int p2, .int p1, .ref 234]) (mem' := (mk q1.2 y)) 4 rfl ?_
    refine mS_bind (fun q2 hq2 => mS_call 187 3 [.ref 234, .int p1, .int p2] [] rfl rfl rfl ⟨_, _, _, rfl, rfl⟩ (Nat.le_of_ble_eq_true rfl) (Nat.le_of_ble_eq_true rfl) hq2 (f_X7_headOf_snd p1 p2 q1.2 y) ?_)
    refine mS_steps (pc' := 22) (ls' := [.ref 0, .int p1, .int p2]) (st' := [.int q2]) (mem' := (mk q1.2 y)) 1 rfl ?_
    exact mS_reti ⟨_, _, _, _, _, rfl, rfl⟩ rfl
def f_X11_placeOf (p1 : Int32) (p2 : Int32) (y : mY) : Option (Int32 × mY) := ((f_X11_isPost p1 y).bind fun q1 => (if q1 = 0 then (some ((-1 : Int32), y)) else ((f_X11_isPost p2 y).bind fun q2 => (if q2 = 0 then (some ((-1 : Int32), y)) else (if p1 = p2 then (some ((-1 : Int32), y)) else ((f_X11_knows y).bind fun q3 => (if m_in (((8 : Int32) * p1) + p2) 64 = true then (if (q3.1 296 (((8 : Int32) * p1) + p2).toNatClampNeg) = 0 then (some ((-1 : Int32), q3)) else (some ((((8 : Int32) * p1) + p2), q3))) else none)))))))
set_option maxRecDepth 20000 in
set_option maxHeartbeats 2000000 in
theorem f_X11_placeOf_snd {fm : Value} {L : Nat} {xs : Nat → Int32} (p1 : Int32) (p2 : Int32) (y : mY) (x : mX) : mS fm L xs (fun r : (Int32 × mY) => (.int r.1, mk x r.2)) pg_X11_placeOf 0 (m_entry [.ref 279, .int p1, .int p2] 3) [] (mk x y) ((f_X11_placeOf p1 p2 y)) := by
  unfold f_X11_placeOf
  refine mS_steps (pc' := 0) (ls' := [.ref 279, .int p1, .int p2]) (st' := []) (mem' := (mk x y)) 0 rfl ?_
  refine mS_steps (pc' := 2) (ls' := [.ref 279, .int p1, .int p2]) (st' := [.int p1, .ref 279]) (mem' := (mk x y)) 2 rfl ?_
  refine mS_bind (fun q1 hq1 => mS_call 104 2 [.ref 279, .int p1] [] rfl rfl rfl ⟨_, _, _, rfl, rfl⟩ (Nat.le_of_ble_eq_true rfl) (Nat.le_of_ble_eq_true rfl) hq1 (f_X11_isPost_snd p1 y x) ?_)
  refine mS_steps (pc' := 5) (ls' := [.ref 279, .int p1, .int p2]) (st' := [.int q1]) (mem' := (mk x y)) 0 rfl ?_
  refine mS_if0 rfl (fun _ => ?_) (fun _ => ?_)
  · refine mS_steps (pc' := 22) (ls' := [.ref 279, .int p1, .int p2]) (st' := [.int (-1 : Int32)]) (mem' := (mk x y)) 1 rfl ?_
    exact mS_reti ⟨_, _, _, _, _, rfl, rfl⟩ rfl
  · refine mS_steps (pc' := 10) (ls' := [.ref 279, .int p1, .int p2]) (st' := [.int p2, .ref 279]) (mem' := (mk x y)) 2 rfl ?_
    refine mS_bind (fun q2 hq2 => mS_call 104 2 [.ref 279, .int p2] [] rfl rfl rfl ⟨_, _, _, rfl, rfl⟩ (Nat.le_of_ble_eq_true rfl) (Nat.le_of_ble_eq_true rfl) hq2 (f_X11_isPost_snd p2 y x) ?_)
    refine mS_steps (pc' := 13) (ls' := [.ref 279, .int p1, .int p2]) (st' := [.int q2]) (mem' := (mk x y)) 0 rfl ?_
    refine mS_if0 rfl (fun _ => ?_) (fun _ => ?_)
    · refine mS_steps (pc' := 22) (ls' := [.ref 279, .int p1, .int p2]) (st' := [.int (-1 : Int32)]) (mem' := (mk x y)) 1 rfl ?_
      exact mS_reti ⟨_, _, _, _, _, rfl, rfl⟩ rfl
    · refine mS_steps (pc' := 18) (ls' := [.ref 279, .int p1, .int p2]) (st' := [.int p2, .int p1]) (mem' := (mk x y)) 2 rfl ?_
      refine mS_ic1 rfl (fun _ => ?_) (fun _ => ?_)
      · refine mS_steps (pc' := 22) (ls' := [.ref 279, .int p1, .int p2]) (st' := [.int (-1 : Int32)]) (mem' := (mk x y)) 1 rfl ?_
        exact mS_reti ⟨_, _, _, _, _, rfl, rfl⟩ rfl
      · refine mS_steps (pc' := 24) (ls' := [.ref 279, .int p1, .int p2]) (st' := [.ref 279]) (mem' := (mk x y)) 1 rfl ?_
        refine mS_bind (fun q3 hq3 => mS_call 156 1 [.ref 279] [] rfl rfl rfl ⟨_, _, _, rfl, rfl⟩ (Nat.le_of_ble_eq_true rfl) (Nat.le_of_ble_eq_true rfl) hq3 (f_X11_knows_snd  y x) ?_)
        refine mS_steps (pc' := 37) (ls' := [.ref 279, .int p1, .int p2]) (st' := [.int (((8 : Int32) * p1) + p2), .ref 296]) (mem' := (mk x q3)) 7 rfl ?_
        refine mS_ald (b := 0) (n := 64) (z := (q3.1 296 (((8 : Int32) * p1) + p2).toNatClampNeg)) rfl (by decide) rfl (by decide) rfl (fun _ => ?_)
        refine mS_if1 rfl (fun _ => ?_) (fun _ => ?_)
        · refine mS_steps (pc' := 51) (ls' := [.ref 279, .int p1, .int p2]) (st' := [.int (-1 : Int32)]) (mem' := (mk x q3)) 2 rfl ?_
          exact mS_reti ⟨_, _, _, _, _, rfl, rfl⟩ rfl
        · refine mS_steps (pc' := 51) (ls' := [.ref 279, .int p1, .int p2]) (st' := [.int (((8 : Int32) * p1) + p2)]) (mem' := (mk x q3)) 5 rfl ?_
          exact mS_reti ⟨_, _, _, _, _, rfl, rfl⟩ rfl
def f_X11_head (p1 : Int32) (p2 : Int32) (y : mY) : Option (Int32 × mY) := ((f_X11_placeOf p1 p2 y).bind fun q1 => (if 0 ≤ q1.1 then (if m_in q1.1 64 = true then (some ((q1.2.1 297 q1.1.toNatClampNeg), q1.2)) else none) else (some ((-1 : Int32), q1.2))))
set_option maxRecDepth 20000 in
set_option maxHeartbeats 2000000 in
theorem f_X11_head_snd {fm : Value} {L : Nat} {xs : Nat → Int32} (p1 : Int32) (p2 : Int32) (y : mY) (x : mX) : mS fm L xs (fun r : (Int32 × mY) => (.int r.1, mk x r.2)) pg_X11_head 0 (m_entry [.ref 279, .int p1, .int p2] 4) [] (mk x y) ((f_X11_head p1 p2 y)) := by
  unfold f_X11_head
  refine mS_steps (pc' := 0) (ls' := [.ref 279, .int p1, .int p2, mU]) (st' := []) (mem' := (mk x y)) 0 rfl ?_
  refine mS_steps (pc' := 3) (ls' := [.ref 279, .int p1, .int p2, mU]) (st' := [.int p2, .int p1, .ref 279]) (mem' := (mk x y)) 3 rfl ?_
  refine mS_bind (fun q1 hq1 => mS_call 189 3 [.ref 279, .int p1, .int p2] [] rfl rfl rfl ⟨_, _, _, rfl, rfl⟩ (Nat.le_of_ble_eq_true rfl) (Nat.le_of_ble_eq_true rfl) hq1 (f_X11_placeOf_snd p1 p2 y x) ?_)
  refine mS_steps (pc' := 8) (ls' := [.ref 279, .int p1, .int p2, .int q1.1]) (st' := [.int q1.1]) (mem' := (mk x q1.2)) 2 rfl ?_
  refine mS_if3 rfl (fun _ => ?_) (fun _ => ?_)
  · refine mS_steps (pc' := 20) (ls' := [.ref 279, .int p1, .int p2, .int q1.1]) (st' := [.int q1.1, .ref 297]) (mem' := (mk x q1.2)) 3 rfl ?_
    refine mS_ald (b := 0) (n := 64) (z := (q1.2.1 297 q1.1.toNatClampNeg)) rfl (by decide) rfl (by decide) rfl (fun _ => ?_)
    exact mS_reti ⟨_, _, _, _, _, rfl, rfl⟩ rfl
  · refine mS_steps (pc' := 21) (ls' := [.ref 279, .int p1, .int p2, .int q1.1]) (st' := [.int (-1 : Int32)]) (mem' := (mk x q1.2)) 2 rfl ?_
    exact mS_reti ⟨_, _, _, _, _, rfl, rfl⟩ rfl
def f_X10_last (p1 : Int32) (p2 : Int32) (x : mX) : Option (Int32 × mX) := ((f_X10_hasWay p1 p2 x).bind fun q1 => (if q1.1 = 0 then (some ((-1 : Int32), q1.2)) else ((f_X7_ownOf p1 p2 q1.2).bind fun q2 => ((f_X7_headOf p1 p2 q1.2).bind fun q3 => ((f_X3_lastOf q2 q3 q1.2).bind fun q4 => (some (q4, q1.2)))))))
set_option maxRecDepth 20000 in
set_option maxHeartbeats 2000000 in
theorem f_X10_last_snd {fm : Value} {L : Nat} {xs : Nat → Int32} (p1 : Int32) (p2 : Int32) (x : mX) (y : mY) : mS fm L xs (fun r : (Int32 × mX) => (.int r.1, mk r.2 y)) pg_X10_last 0 (m_entry [.ref 0, .int p1, .int p2] 3) [] (mk x y) ((f_X10_last p1 p2 x)) := by
  unfold f_X10_last
  refine mS_steps (pc' := 0) (ls' := [.ref 0, .int p1, .int p2]) (st' := []) (mem' := (mk x y)) 0 rfl ?_
  refine mS_steps (pc' := 3) (ls' := [.ref 0, .int p1, .int p2]) (st' := [.int p2, .int p1, .ref 0]) (mem' := (mk x y)) 3 rfl ?_
  refine mS_bind (fun q1 hq1 => mS_call 186 3 [.ref 0, .int p1, .int p2] [] rfl rfl rfl ⟨_, _, _, rfl, rfl⟩ (Nat.le_of_ble_eq_true rfl) (Nat.le_of_ble_eq_true rfl) hq1 (f_X10_hasWay_snd p1 p2 x y) ?_)
  refine mS_steps (pc' := 6) (ls' := [.ref 0, .int p1, .int p2]) (st' := [.int q1.1]) (mem' := (mk q1.2 y)) 0 rfl ?_
  refine mS_if1 rfl (fun _ => ?_) (fun _ => ?_)
  · refine mS_steps (pc' := 10) (ls' := [.ref 0, .int p1, .int p2]) (st' := [.int (-1 : Int32)]) (mem' := (mk q1.2 y)) 1 rfl ?_
    exact mS_reti ⟨_, _, _, _, _, rfl, rfl⟩ rfl
  · refine mS_steps (pc' := 21) (ls' := [.ref 0, .int p1, .int p2]) (st' := [.int p2, .int p1, .ref 234, .ref 228]) (mem' := (mk q1.2 y)) 6 rfl ?_
    refine mS_bind (fun q2 hq2 => mS_call 123 3 [.ref 234, .int p1, .int p2] [.ref 228] rfl rfl rfl ⟨_, _, _, rfl, rfl⟩ (Nat.le_of_ble_eq_true rfl) (Nat.le_of_ble_eq_true rfl) hq2 (f_X7_ownOf_snd p1 p2 q1.2 y) ?_)
    refine mS_steps (pc' := 30) (ls' := [.ref 0, .int p1, .int p2]) (st' := [.int p2, .int p1, .ref 234, .int q2, .ref 228]) (mem' := (mk q1.2 y)) 4 rfl ?_
    refine mS_bind (fun q3 hq3 => mS_call 187 3 [.ref 234, .int p1, .int p2] [.int q2, .ref 228] rfl rfl rfl ⟨_, _, _, rfl, rfl⟩ (Nat.le_of_ble_eq_true rfl) (Nat.le_of_ble_eq_true rfl) hq3 (f_X7_headOf_snd p1 p2 q1.2 y) ?_)
    refine mS_steps (pc' := 33) (ls' := [.ref 0, .int p1, .int p2]) (st' := [.int q3, .int q2, .ref 228]) (mem' := (mk q1.2 y)) 0 rfl ?_
    refine mS_bind (fun q4 hq4 => mS_call 127 3 [.ref 228, .int q2, .int q3] [] rfl rfl rfl ⟨_, _, _, rfl, rfl⟩ (Nat.le_of_ble_eq_true rfl) (Nat.le_of_ble_eq_true rfl) hq4 (f_X3_lastOf_snd q2 q3 q1.2 y) ?_)
    refine mS_steps (pc' := 36) (ls' := [.ref 0, .int p1, .int p2]) (st' := [.int q4]) (mem' := (mk q1.2 y)) 0 rfl ?_
    exact mS_reti ⟨_, _, _, _, _, rfl, rfl⟩ rfl
def f_X11_last (p1 : Int32) (p2 : Int32) (y : mY) : Option (Int32 × mY) := ((f_X11_placeOf p1 p2 y).bind fun q1 => (if 0 ≤ q1.1 then (if m_in q1.1 64 = true then (some ((q1.2.1 298 q1.1.toNatClampNeg), q1.2)) else none) else (some ((-1 : Int32), q1.2))))
set_option maxRecDepth 20000 in
set_option maxHeartbeats 2000000 in
theorem f_X11_last_snd {fm : Value} {L : Nat} {xs : Nat → Int32} (p1 : Int32) (p2 : Int32) (y : mY) (x : mX) : mS fm L xs (fun r : (Int32 × mY) => (.int r.1, mk x r.2)) pg_X11_last 0 (m_entry [.ref 279, .int p1, .int p2] 4) [] (mk x y) ((f_X11_last p1 p2 y)) := by
  unfold f_X11_last
  refine mS_steps (pc' := 0) (ls' := [.ref 279, .int p1, .int p2, mU]) (st' := []) (mem' := (mk x y)) 0 rfl ?_
  refine mS_steps (pc' := 3) (ls' := [.ref 279, .int p1, .int p2, mU]) (st' := [.int p2, .int p1, .ref 279]) (mem' := (mk x y)) 3 rfl ?_
  refine mS_bind (fun q1 hq1 => mS_call 189 3 [.ref 279, .int p1, .int p2] [] rfl rfl rfl ⟨_, _, _, rfl, rfl⟩ (Nat.le_of_ble_eq_true rfl) (Nat.le_of_ble_eq_true rfl) hq1 (f_X11_placeOf_snd p1 p2 y x) ?_)
  refine mS_steps (pc' := 8) (ls' := [.ref 279, .int p1, .int p2, .int q1.1]) (st' := [.int q1.1]) (mem' := (mk x q1.2)) 2 rfl ?_
  refine mS_if3 rfl (fun _ => ?_) (fun _ => ?_)
  · refine mS_steps (pc' := 20) (ls' := [.ref 279, .int p1, .int p2, .int q1.1]) (st' := [.int q1.1, .ref 298]) (mem' := (mk x q1.2)) 3 rfl ?_
    refine mS_ald (b := 0) (n := 64) (z := (q1.2.1 298 q1.1.toNatClampNeg)) rfl (by decide) rfl (by decide) rfl (fun _ => ?_)
    exact mS_reti ⟨_, _, _, _, _, rfl, rfl⟩ rfl
  · refine mS_steps (pc' := 21) (ls' := [.ref 279, .int p1, .int p2, .int q1.1]) (st' := [.int (-1 : Int32)]) (mem' := (mk x q1.2)) 2 rfl ?_
    exact mS_reti ⟨_, _, _, _, _, rfl, rfl⟩ rfl
