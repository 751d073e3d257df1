/-! ===== methods as functions (written by wip/whole/gen/emitall.py) ===== -/
def f_X1_flip (p1 : Int32) (p2 : Int32) (x : mX) : Option mX := (if m_in p1 8 = true then (if m_in p1 8 = true then (m_let (m_xs x 259 p1.toNatClampNeg ((x.1 259 p1.toNatClampNeg) ^^^ ((1 : Int32) <<< (p2 &&& 31)))) fun x1 => (if m_in p2 8 = true then (if m_in p2 8 = true then (m_let (m_xs x1 259 p2.toNatClampNeg ((x1.1 259 p2.toNatClampNeg) ^^^ ((1 : Int32) <<< (p1 &&& 31)))) fun x2 => ((f_X3_divide 258 x2).bind fun q3 => (some q3))) else none) else none)) else none) else none)
set_option maxRecDepth 20000 in
set_option maxHeartbeats 2000000 in
theorem f_X1_flip_snd {fm : Value} {L : Nat} {xs : Nat → Int32} (p1 : Int32) (p2 : Int32) (x : mX) (y : mY) : mS fm L xs (fun r : mX => (mU, mk r y)) pg_X1_flip 0 (m_entry [.ref 256, .int p1, .int p2] 3) [] (mk x y) ((f_X1_flip p1 p2 x)) := by
  unfold f_X1_flip
  refine mS_steps (pc' := 0) (ls' := [.ref 256, .int p1, .int p2]) (st' := []) (mem' := (mk x y)) 0 rfl ?_
  refine mS_steps (pc' := 9) (ls' := [.ref 256, .int p1, .int p2]) (st' := [.int p1, .ref 259, .int p1, .ref 259]) (mem' := (mk x y)) 5 rfl ?_
  refine mS_ald (b := 0) (n := 8) (z := (x.1 259 p1.toNatClampNeg)) rfl (by decide) rfl (by decide) rfl (fun _ => ?_)
  refine mS_steps (pc' := 14) (ls' := [.ref 256, .int p1, .int p2]) (st' := [.int ((x.1 259 p1.toNatClampNeg) ^^^ ((1 : Int32) <<< (p2 &&& 31))), .int p1, .ref 259]) (mem' := (mk x y)) 4 rfl ?_
  refine mS_ast0x (n := 8) rfl rfl (by decide) (fun _ => ?_)
  refine mS_letx (fun x1 => ?_)
  refine mS_steps (pc' := 24) (ls' := [.ref 256, .int p1, .int p2]) (st' := [.int p2, .ref 259, .int p2, .ref 259]) (mem' := (mk x1 y)) 5 rfl ?_
  refine mS_ald (b := 0) (n := 8) (z := (x1.1 259 p2.toNatClampNeg)) rfl (by decide) rfl (by decide) rfl (fun _ => ?_)
  refine mS_steps (pc' := 29) (ls' := [.ref 256, .int p1, .int p2]) (st' := [.int ((x1.1 259 p2.toNatClampNeg) ^^^ ((1 : Int32) <<< (p1 &&& 31))), .int p2, .ref 259]) (mem' := (mk x1 y)) 4 rfl ?_
  refine mS_ast0x (n := 8) rfl rfl (by decide) (fun _ => ?_)
  refine mS_letx (fun x2 => ?_)
  refine mS_steps (pc' := 34) (ls' := [.ref 256, .int p1, .int p2]) (st' := [.ref 258]) (mem' := (mk x2 y)) 2 rfl ?_
  refine mS_bind (fun q3 hq3 => mS_call 114 1 [.ref 258] [] rfl rfl rfl ⟨_, _, _, rfl, rfl⟩ (Nat.le_of_ble_eq_true rfl) (Nat.le_of_ble_eq_true rfl) hq3 (f_X3_divide_258_snd  x2 y) ?_)
  refine mS_steps (pc' := 37) (ls' := [.ref 256, .int p1, .int p2]) (st' := []) (mem' := (mk q3 y)) 0 rfl ?_
  exact mS_retv ⟨_, _, _, _, _, rfl⟩ rfl
def f_X1_helps (p1 : Int32) (p2 : Int32) (p3 : Int32) (x : mX) : Option (Int32 × mX) := ((f_X1_flip p1 p2 x).bind fun q1 => ((f_X1_need q1).bind fun q2 => (if p3 ≤ q2 then ((f_X1_flip p1 p2 q1).bind fun q3 => (some ((0 : Int32), q3))) else (some ((1 : Int32), q1)))))
set_option maxRecDepth 20000 in
set_option maxHeartbeats 2000000 in
theorem f_X1_helps_snd {fm : Value} {L : Nat} {xs : Nat → Int32} (p1 : Int32) (p2 : Int32) (p3 : Int32) (x : mX) (y : mY) : mS fm L xs (fun r : (Int32 × mX) => (.int r.1, mk r.2 y)) pg_X1_helps 0 (m_entry [.ref 256, .int p1, .int p2, .int p3] 4) [] (mk x y) ((f_X1_helps p1 p2 p3 x)) := by
  unfold f_X1_helps
  refine mS_steps (pc' := 0) (ls' := [.ref 256, .int p1, .int p2, .int p3]) (st' := []) (mem' := (mk x y)) 0 rfl ?_
  refine mS_steps (pc' := 3) (ls' := [.ref 256, .int p1, .int p2, .int p3]) (st' := [.int p2, .int p1, .ref 256]) (mem' := (mk x y)) 3 rfl ?_
  refine mS_bind (fun q1 hq1 => mS_call 259 3 [.ref 256, .int p1, .int p2] [] rfl rfl rfl ⟨_, _, _, rfl, rfl⟩ (Nat.le_of_ble_eq_true rfl) (Nat.le_of_ble_eq_true rfl) hq1 (f_X1_flip_snd p1 p2 x y) ?_)
  refine mS_steps (pc' := 7) (ls' := [.ref 256, .int p1, .int p2, .int p3]) (st' := [.ref 256]) (mem' := (mk q1 y)) 1 rfl ?_
  refine mS_bind (fun q2 hq2 => mS_call 257 1 [.ref 256] [] rfl rfl rfl ⟨_, _, _, rfl, rfl⟩ (Nat.le_of_ble_eq_true rfl) (Nat.le_of_ble_eq_true rfl) hq2 (f_X1_need_snd  q1 y) ?_)
  refine mS_steps (pc' := 11) (ls' := [.ref 256, .int p1, .int p2, .int p3]) (st' := [.int p3, .int q2]) (mem' := (mk q1 y)) 1 rfl ?_
  refine mS_ic3 rfl (fun _ => ?_) (fun _ => ?_)
  · refine mS_steps (pc' := 19) (ls' := [.ref 256, .int p1, .int p2, .int p3]) (st' := [.int p2, .int p1, .ref 256]) (mem' := (mk q1 y)) 3 rfl ?_
    refine mS_bind (fun q3 hq3 => mS_call 259 3 [.ref 256, .int p1, .int p2] [] rfl rfl rfl ⟨_, _, _, rfl, rfl⟩ (Nat.le_of_ble_eq_true rfl) (Nat.le_of_ble_eq_true rfl) hq3 (f_X1_flip_snd p1 p2 q1 y) ?_)
    refine mS_steps (pc' := 23) (ls' := [.ref 256, .int p1, .int p2, .int p3]) (st' := [.int (0 : Int32)]) (mem' := (mk q3 y)) 1 rfl ?_
    exact mS_reti ⟨_, _, _, _, _, rfl, (by decide)⟩ rfl
  · refine mS_steps (pc' := 15) (ls' := [.ref 256, .int p1, .int p2, .int p3]) (st' := [.int (1 : Int32)]) (mem' := (mk q1 y)) 1 rfl ?_
    exact mS_reti ⟨_, _, _, _, _, rfl, (by decide)⟩ rfl
def f_X1_plan_L26 : Nat → Int32 → mX → (mX → Option mX) → Option mX
  | 0, _, _, _ => none
  | n + 1, a2, x, k53 => (if (8 : Int32) ≤ a2 then (k53 x) else (if m_in a2 8 = true then (if m_in a2 8 = true then (m_let (m_xs x 259 a2.toNatClampNeg (x.1 223 a2.toNatClampNeg)) fun x3 => (f_X1_plan_L26 n (a2 + (1 : Int32)) x3 k53)) else none) else none))
def f_X1_plan_L93 (a3 : Int32) : Nat → Int32 → Int32 → mX → (Int32 → mX → Option mX) → Option mX
  | 0, _, _, _, _ => none
  | n + 1, a2, a4, x, k175 => (if (8 : Int32) ≤ a4 then (k175 a2 x) else (if (x.1 256 0) < 0 then (f_X1_plan_L93 a3 n a2 (a4 + (1 : Int32)) x k175) else (if (4 : Int32) ≤ (x.1 256 0) then (f_X1_plan_L93 a3 n a2 (a4 + (1 : Int32)) x k175) else (if a2 ≤ 0 then (f_X1_plan_L93 a3 n a2 (a4 + (1 : Int32)) x k175) else ((f_X1_isNew a3 a4 x).bind fun q10 => (if q10 = 0 then (f_X1_plan_L93 a3 n a2 (a4 + (1 : Int32)) x k175) else ((f_X1_helps a3 a4 a2 x).bind fun q11 => (if q11.1 = 0 then (f_X1_plan_L93 a3 n a2 (a4 + (1 : Int32)) q11.2 k175) else (if m_in (q11.2.1 256 0) 4 = true then (m_let (m_xs q11.2 257 (q11.2.1 256 0).toNatClampNeg (((10 : Int32) * a3) + a4)) fun x12 => (m_let (m_xs x12 256 0 ((x12.1 256 0) + (1 : Int32))) fun x13 => (f_X1_plan_L93 a3 n (a2 + (-1 : Int32)) (a4 + (1 : Int32)) x13 k175))) else none)))))))))
def f_X1_plan_L82 : Nat → Int32 → Int32 → mX → Option mX
  | 0, _, _, _ => none
  | n + 1, a2, a3, x => (if (8 : Int32) ≤ a3 then (some x) else (f_X1_plan_L93 a3 mF a2 (a3 + (1 : Int32)) x (fun v14 x15 => (f_X1_plan_L82 n v14 (a3 + (1 : Int32)) x15))))
def f_X1_plan (x : mX) : Option mX := (if (x.1 256 2) = 0 then (m_let (m_xs x 256 2 (1 : Int32)) fun x1 => (m_let (m_xs x1 258 0 (x1.1 222 0)) fun x2 => (f_X1_plan_L26 mF (0 : Int32) x2 (fun x4 => ((f_X3_divide 258 x4).bind fun q5 => ((f_X1_need q5).bind fun q6 => (m_jn (fun w8 => (m_let (m_xs q5 256 0 w8) fun x9 => (f_X1_plan_L82 mF q6 (0 : Int32) x9))) (fun j7 => if q6 ≤ (4 : Int32) then (j7 (0 : Int32)) else (j7 (-2 : Int32)))))))))) else (some x))
set_option maxRecDepth 20000 in
set_option maxHeartbeats 2000000 in
theorem f_X1_plan_L26_snd {fm : Value} {L : Nat} {xs : Nat → Int32} (y : mY) (k53 : mX → Option mX) (hk53 : ∀ (z0 : mX), mS fm L xs (fun r : mX => (mU, mk r y)) pg_X1_plan 53 [.ref 256, mU, mU, mU, mU] [] (mk z0 y) (k53 z0)) : ∀ (n : Nat) (a2 : Int32) (x : mX), mS fm L xs (fun r : mX => (mU, mk r y)) pg_X1_plan 26 [.ref 256, .ref 222, .int a2, mU, mU] [] (mk x y) (f_X1_plan_L26 n a2 x k53) := by
  intro n
  induction n with
  | zero => intro a2 x; exact mS_none
  | succ n ih =>
    intro a2 x
    rw [f_X1_plan_L26]
    refine mS_steps (pc' := 29) (ls' := [.ref 256, .ref 222, .int a2, mU, mU]) (st' := [.int (8 : Int32), .int a2]) (mem' := (mk x y)) 2 rfl ?_
    refine mS_ic3 rfl (fun _ => ?_) (fun _ => ?_)
    · refine mS_forget [.ref 256, mU, mU, mU, mU] ⟨Or.inr rfl, Or.inl rfl, Or.inl rfl, Or.inl rfl, Or.inl rfl, trivial⟩ ?_
      exact hk53 x
    · refine mS_steps (pc' := 45) (ls' := [.ref 256, .ref 222, .int a2, mU, mU]) (st' := [.int a2, .ref 223, .int a2, .ref 259]) (mem' := (mk x y)) 7 rfl ?_
      refine mS_ald (b := 0) (n := 8) (z := (x.1 223 a2.toNatClampNeg)) rfl (by decide) rfl (by decide) rfl (fun _ => ?_)
      refine mS_ast0x (n := 8) rfl rfl (by decide) (fun _ => ?_)
      refine mS_letx (fun x3 => ?_)
      refine mS_steps (pc' := 26) (ls' := [.ref 256, .ref 222, .int (a2 + (1 : Int32)), mU, mU]) (st' := []) (mem' := (mk x3 y)) 2 rfl ?_
      exact ih (a2 + (1 : Int32)) x3
set_option maxRecDepth 20000 in
set_option maxHeartbeats 2000000 in
theorem f_X1_plan_L93_snd {fm : Value} {L : Nat} {xs : Nat → Int32} (a3 : Int32) (y : mY) (k175 : Int32 → mX → Option mX) (hk175 : ∀ (b2 : Int32) (z0 : mX), mS fm L xs (fun r : mX => (mU, mk r y)) pg_X1_plan 175 [.ref 256, mU, .int b2, .int a3, mU] [] (mk z0 y) (k175 b2 z0)) : ∀ (n : Nat) (a2 : Int32) (a4 : Int32) (x : mX), mS fm L xs (fun r : mX => (mU, mk r y)) pg_X1_plan 93 [.ref 256, mU, .int a2, .int a3, .int a4] [] (mk x y) (f_X1_plan_L93 a3 n a2 a4 x k175) := by
  intro n
  induction n with
  | zero => intro a2 a4 x; exact mS_none
  | succ n ih =>
    intro a2 a4 x
    rw [f_X1_plan_L93]
    refine mS_steps (pc' := 97) (ls' := [.ref 256, mU, .int a2, .int a3, .int a4]) (st' := [.int (8 : Int32), .int a4]) (mem' := (mk x y)) 2 rfl ?_
    refine mS_ic3 rfl (fun _ => ?_) (fun _ => ?_)
    · refine mS_forget [.ref 256, mU, .int a2, .int a3, mU] ⟨Or.inr rfl, Or.inl rfl, Or.inr rfl, Or.inr rfl, Or.inl rfl, trivial⟩ ?_
      exact hk175 a2 x
    · refine mS_steps (pc' := 104) (ls' := [.ref 256, mU, .int a2, .int a3, .int a4]) (st' := [.int (x.1 256 0)]) (mem' := (mk x y)) 2 rfl ?_
      refine mS_if2 rfl (fun _ => ?_) (fun _ => ?_)
      · refine mS_steps (pc' := 93) (ls' := [.ref 256, mU, .int a2, .int a3, .int (a4 + (1 : Int32))]) (st' := []) (mem' := (mk x y)) 2 rfl ?_
        exact ih a2 (a4 + (1 : Int32)) x
      · refine mS_steps (pc' := 112) (ls' := [.ref 256, mU, .int a2, .int a3, .int a4]) (st' := [.int (4 : Int32), .int (x.1 256 0)]) (mem' := (mk x y)) 3 rfl ?_
        refine mS_ic3 rfl (fun _ => ?_) (fun _ => ?_)
        · refine mS_steps (pc' := 93) (ls' := [.ref 256, mU, .int a2, .int a3, .int (a4 + (1 : Int32))]) (st' := []) (mem' := (mk x y)) 2 rfl ?_
          exact ih a2 (a4 + (1 : Int32)) x
        · refine mS_steps (pc' := 116) (ls' := [.ref 256, mU, .int a2, .int a3, .int a4]) (st' := [.int a2]) (mem' := (mk x y)) 1 rfl ?_
          refine mS_if5 rfl (fun _ => ?_) (fun _ => ?_)
          · refine mS_steps (pc' := 93) (ls' := [.ref 256, mU, .int a2, .int a3, .int (a4 + (1 : Int32))]) (st' := []) (mem' := (mk x y)) 2 rfl ?_
            exact ih a2 (a4 + (1 : Int32)) x
          · refine mS_steps (pc' := 123) (ls' := [.ref 256, mU, .int a2, .int a3, .int a4]) (st' := [.int a4, .int a3, .ref 256]) (mem' := (mk x y)) 3 rfl ?_
            refine mS_bind (fun q10 hq10 => mS_call 258 3 [.ref 256, .int a3, .int a4] [] rfl rfl rfl ⟨_, _, _, rfl, rfl⟩ (Nat.le_of_ble_eq_true rfl) (Nat.le_of_ble_eq_true rfl) hq10 (f_X1_isNew_snd a3 a4 x y) ?_)
            refine mS_steps (pc' := 126) (ls' := [.ref 256, mU, .int a2, .int a3, .int a4]) (st' := [.int q10]) (mem' := (mk x y)) 0 rfl ?_
            refine mS_if0 rfl (fun _ => ?_) (fun _ => ?_)
            · refine mS_steps (pc' := 93) (ls' := [.ref 256, mU, .int a2, .int a3, .int (a4 + (1 : Int32))]) (st' := []) (mem' := (mk x y)) 2 rfl ?_
              exact ih a2 (a4 + (1 : Int32)) x
            · refine mS_steps (pc' := 134) (ls' := [.ref 256, mU, .int a2, .int a3, .int a4]) (st' := [.int a2, .int a4, .int a3, .ref 256]) (mem' := (mk x y)) 4 rfl ?_
              refine mS_bind (fun q11 hq11 => mS_call 260 4 [.ref 256, .int a3, .int a4, .int a2] [] rfl rfl rfl ⟨_, _, _, rfl, rfl⟩ (Nat.le_of_ble_eq_true rfl) (Nat.le_of_ble_eq_true rfl) hq11 (f_X1_helps_snd a3 a4 a2 x y) ?_)
              refine mS_steps (pc' := 137) (ls' := [.ref 256, mU, .int a2, .int a3, .int a4]) (st' := [.int q11.1]) (mem' := (mk q11.2 y)) 0 rfl ?_
              refine mS_if0 rfl (fun _ => ?_) (fun _ => ?_)
              · refine mS_steps (pc' := 93) (ls' := [.ref 256, mU, .int a2, .int a3, .int (a4 + (1 : Int32))]) (st' := []) (mem' := (mk q11.2 y)) 2 rfl ?_
                exact ih a2 (a4 + (1 : Int32)) q11.2
              · refine mS_steps (pc' := 155) (ls' := [.ref 256, mU, .int a2, .int a3, .int a4]) (st' := [.int (((10 : Int32) * a3) + a4), .int (q11.2.1 256 0), .ref 257]) (mem' := (mk q11.2 y)) 9 rfl ?_
                refine mS_ast0x (n := 4) rfl rfl (by decide) (fun _ => ?_)
                refine mS_letx (fun x12 => ?_)
                refine mS_steps (pc' := 163) (ls' := [.ref 256, mU, .int a2, .int a3, .int a4]) (st' := [.int ((x12.1 256 0) + (1 : Int32)), .ref 256]) (mem' := (mk x12 y)) 5 rfl ?_
                refine mS_putx rfl rfl (by decide) rfl ?_
                refine mS_letx (fun x13 => ?_)
                refine mS_steps (pc' := 93) (ls' := [.ref 256, mU, .int (a2 + (-1 : Int32)), .int a3, .int (a4 + (1 : Int32))]) (st' := []) (mem' := (mk x13 y)) 3 rfl ?_
                exact ih (a2 + (-1 : Int32)) (a4 + (1 : Int32)) x13
set_option maxRecDepth 20000 in
set_option maxHeartbeats 2000000 in
theorem f_X1_plan_L82_snd {fm : Value} {L : Nat} {xs : Nat → Int32} (y : mY) : ∀ (n : Nat) (a2 : Int32) (a3 : Int32) (x : mX), mS fm L xs (fun r : mX => (mU, mk r y)) pg_X1_plan 82 [.ref 256, mU, .int a2, .int a3, mU] [] (mk x y) (f_X1_plan_L82 n a2 a3 x) := by
  intro n
  induction n with
  | zero => intro a2 a3 x; exact mS_none
  | succ n ih =>
    intro a2 a3 x
    rw [f_X1_plan_L82]
    refine mS_steps (pc' := 85) (ls' := [.ref 256, mU, .int a2, .int a3, mU]) (st' := [.int (8 : Int32), .int a3]) (mem' := (mk x y)) 2 rfl ?_
    refine mS_ic3 rfl (fun _ => ?_) (fun _ => ?_)
    · exact mS_retv ⟨_, _, _, _, _, rfl⟩ rfl
    · refine mS_steps (pc' := 93) (ls' := [.ref 256, mU, .int a2, .int a3, .int (a3 + (1 : Int32))]) (st' := []) (mem' := (mk x y)) 4 rfl ?_
      refine f_X1_plan_L93_snd a3 y _ ?_ mF a2 (a3 + (1 : Int32)) x
      · intro v14 x15
        refine mS_steps (pc' := 82) (ls' := [.ref 256, mU, .int v14, .int (a3 + (1 : Int32)), mU]) (st' := []) (mem' := (mk x15 y)) 2 rfl ?_
        exact ih v14 (a3 + (1 : Int32)) x15
set_option maxRecDepth 20000 in
set_option maxHeartbeats 2000000 in
theorem f_X1_plan_snd {fm : Value} {L : Nat} {xs : Nat → Int32} (x : mX) (y : mY) : mS fm L xs (fun r : mX => (mU, mk r y)) pg_X1_plan 0 (m_entry [.ref 256, .ref 222] 5) [] (mk x y) ((f_X1_plan x)) := by
  unfold f_X1_plan
  refine mS_steps (pc' := 0) (ls' := [.ref 256, .ref 222, mU, mU, mU]) (st' := []) (mem' := (mk x y)) 0 rfl ?_
  refine mS_steps (pc' := 4) (ls' := [.ref 256, .ref 222, mU, mU, mU]) (st' := [.int (x.1 256 2)]) (mem' := (mk x y)) 2 rfl ?_
  refine mS_if0 rfl (fun _ => ?_) (fun _ => ?_)
  · refine mS_steps (pc' := 10) (ls' := [.ref 256, .ref 222, mU, mU, mU]) (st' := [.int (1 : Int32), .ref 256]) (mem' := (mk x y)) 2 rfl ?_
    refine mS_putcx rfl rfl (by decide) rfl (by decide) ?_
    refine mS_letx (fun x1 => ?_)
    refine mS_steps (pc' := 21) (ls' := [.ref 256, .ref 222, mU, mU, mU]) (st' := [.int (x1.1 222 0), .ref 258]) (mem' := (mk x1 y)) 4 rfl ?_
    refine mS_putx rfl rfl (by decide) rfl ?_
    refine mS_letx (fun x2 => ?_)
    refine mS_steps (pc' := 26) (ls' := [.ref 256, .ref 222, .int (0 : Int32), mU, mU]) (st' := []) (mem' := (mk x2 y)) 2 rfl ?_
    refine f_X1_plan_L26_snd y _ ?_ mF (0 : Int32) x2
    · intro x4
      refine mS_steps (pc' := 57) (ls' := [.ref 256, mU, mU, mU, mU]) (st' := [.ref 258]) (mem' := (mk x4 y)) 2 rfl ?_
      refine mS_bind (fun q5 hq5 => mS_call 114 1 [.ref 258] [] rfl rfl rfl ⟨_, _, _, rfl, rfl⟩ (Nat.le_of_ble_eq_true rfl) (Nat.le_of_ble_eq_true rfl) hq5 (f_X3_divide_258_snd  x4 y) ?_)
      refine mS_steps (pc' := 61) (ls' := [.ref 256, mU, mU, mU, mU]) (st' := [.ref 256]) (mem' := (mk q5 y)) 1 rfl ?_
      refine mS_bind (fun q6 hq6 => mS_call 257 1 [.ref 256] [] rfl rfl rfl ⟨_, _, _, rfl, rfl⟩ (Nat.le_of_ble_eq_true rfl) (Nat.le_of_ble_eq_true rfl) hq6 (f_X1_need_snd  q5 y) ?_)
      refine mS_steps (pc' := 68) (ls' := [.ref 256, mU, .int q6, mU, mU]) (st' := [.int (4 : Int32), .int q6, .ref 256]) (mem' := (mk q5 y)) 4 rfl ?_
      refine mS_jn (fun j => ∀ z : Int32, mS fm L xs (fun r : mX => (mU, mk r y)) pg_X1_plan 77 [.ref 256, mU, .int q6, mU, mU] [.int z, .ref 256] (mk q5 y) (j z)) ?_ ?_
      · intro z
        revert z; intro w8
        refine mS_putx rfl rfl (by decide) rfl ?_
        refine mS_letx (fun x9 => ?_)
        refine mS_steps (pc' := 82) (ls' := [.ref 256, mU, .int q6, .int (0 : Int32), mU]) (st' := []) (mem' := (mk x9 y)) 2 rfl ?_
        refine f_X1_plan_L82_snd y mF q6 (0 : Int32) x9
      intro j7 hj7
      refine mS_ic5 rfl (fun _ => ?_) (fun _ => ?_)
      · refine mS_steps (pc' := 77) (ls' := [.ref 256, mU, .int q6, mU, mU]) (st' := [.int (0 : Int32), .ref 256]) (mem' := (mk q5 y)) 1 rfl ?_
        exact hj7 (0 : Int32)
      · refine mS_steps (pc' := 77) (ls' := [.ref 256, mU, .int q6, mU, mU]) (st' := [.int (-2 : Int32), .ref 256]) (mem' := (mk q5 y)) 2 rfl ?_
        exact hj7 (-2 : Int32)
  · exact mS_retv ⟨_, _, _, _, _, rfl⟩ rfl
def f_X10_grow (p1 : Int32) (x : mX) : Option (Int32 × mX) := ((f_X10_presentNet x).bind fun q1 => (if q1.1 = 222 then ((f_X1_plan q1.2).bind fun q2 => (if (q2.1 256 0) = (-2 : Int32) then (some ((-2 : Int32), q2)) else (if p1 = (-1 : Int32) then (some ((q2.1 256 0), q2)) else (if p1 < 0 then (some ((-1 : Int32), q2)) else (if (q2.1 256 0) ≤ p1 then (some ((-1 : Int32), q2)) else (if m_in p1 4 = true then (some ((q2.1 257 p1.toNatClampNeg), q2)) else none)))))) else none))
set_option maxRecDepth 20000 in
set_option maxHeartbeats 2000000 in
theorem f_X10_grow_snd {fm : Value} {L : Nat} {xs : Nat → Int32} (p1 : Int32) (x : mX) (y : mY) : mS fm L xs (fun r : (Int32 × mX) => (.int r.1, mk r.2 y)) pg_X10_grow 0 (m_entry [.ref 0, .int p1] 2) [] (mk x y) ((f_X10_grow p1 x)) := by
  unfold f_X10_grow
  refine mS_steps (pc' := 0) (ls' := [.ref 0, .int p1]) (st' := []) (mem' := (mk x y)) 0 rfl ?_
  refine mS_steps (pc' := 5) (ls' := [.ref 0, .int p1]) (st' := [.ref 0, .ref 256]) (mem' := (mk x y)) 3 rfl ?_
  refine mS_bind (fun q1 hq1 => mS_call 168 1 [.ref 0] [.ref 256] rfl rfl rfl ⟨_, _, _, rfl, rfl⟩ (Nat.le_of_ble_eq_true rfl) (Nat.le_of_ble_eq_true rfl) hq1 (f_X10_presentNet_snd  x y) ?_)
  refine mS_steps (pc' := 8) (ls' := [.ref 0, .int p1]) (st' := .ref q1.1 :: [.ref 256]) (mem' := (mk q1.2 y)) 0 rfl ?_
  refine mS_guard (fun hrq1 => ?_)
  rw [hrq1]
  refine mS_steps (pc' := 8) (ls' := [.ref 0, .int p1]) (st' := [.ref 222, .ref 256]) (mem' := (mk q1.2 y)) 0 rfl ?_
  refine mS_bind (fun q2 hq2 => mS_call 261 2 [.ref 256, .ref 222] [] rfl rfl rfl ⟨_, _, _, rfl, rfl⟩ (Nat.le_of_ble_eq_true rfl) (Nat.le_of_ble_eq_true rfl) hq2 (f_X1_plan_snd  q1.2 y) ?_)
  refine mS_steps (pc' := 20) (ls' := [.ref 0, .int p1]) (st' := [.int (-2 : Int32), .int (q2.1 256 0)]) (mem' := (mk q2 y)) 4 rfl ?_
  refine mS_ic1 rfl (fun _ => ?_) (fun _ => ?_)
  · refine mS_steps (pc' := 25) (ls' := [.ref 0, .int p1]) (st' := [.int (-2 : Int32)]) (mem' := (mk q2 y)) 1 rfl ?_
    exact mS_reti ⟨_, _, _, _, _, rfl, rfl⟩ rfl
  · refine mS_steps (pc' := 28) (ls' := [.ref 0, .int p1]) (st' := [.int (-1 : Int32), .int p1]) (mem' := (mk q2 y)) 2 rfl ?_
    refine mS_ic1 rfl (fun _ => ?_) (fun _ => ?_)
    · refine mS_steps (pc' := 38) (ls' := [.ref 0, .int p1]) (st' := [.int (q2.1 256 0)]) (mem' := (mk q2 y)) 3 rfl ?_
      exact mS_reti ⟨_, _, _, _, _, rfl, rfl⟩ rfl
    · refine mS_steps (pc' := 40) (ls' := [.ref 0, .int p1]) (st' := [.int p1]) (mem' := (mk q2 y)) 1 rfl ?_
      refine mS_if2 rfl (fun _ => ?_) (fun _ => ?_)
      · refine mS_steps (pc' := 67) (ls' := [.ref 0, .int p1]) (st' := [.int (-1 : Int32)]) (mem' := (mk q2 y)) 1 rfl ?_
        exact mS_reti ⟨_, _, _, _, _, rfl, rfl⟩ rfl
      · refine mS_steps (pc' := 51) (ls' := [.ref 0, .int p1]) (st' := [.int (q2.1 256 0), .int p1]) (mem' := (mk q2 y)) 4 rfl ?_
        refine mS_ic3 rfl (fun _ => ?_) (fun _ => ?_)
        · refine mS_steps (pc' := 67) (ls' := [.ref 0, .int p1]) (st' := [.int (-1 : Int32)]) (mem' := (mk q2 y)) 1 rfl ?_
          exact mS_reti ⟨_, _, _, _, _, rfl, rfl⟩ rfl
        · refine mS_steps (pc' := 62) (ls' := [.ref 0, .int p1]) (st' := [.int p1, .ref 257]) (mem' := (mk q2 y)) 4 rfl ?_
          refine mS_ald (b := 0) (n := 4) (z := (q2.1 257 p1.toNatClampNeg)) rfl (by decide) rfl (by decide) rfl (fun _ => ?_)
          refine mS_steps (pc' := 67) (ls' := [.ref 0, .int p1]) (st' := [.int (q2.1 257 p1.toNatClampNeg)]) (mem' := (mk q2 y)) 1 rfl ?_
          exact mS_reti ⟨_, _, _, _, _, rfl, rfl⟩ rfl
def f_X11_isTied (y : mY) : Option Int32 := ((f_X11_bitsOf (y.1 289 0)).bind fun q1 => (if q1 < (2 : Int32) then (some (1 : Int32)) else ((f_X11_isTight (2 : Int32) (y.1 289 0) y).bind fun q2 => (if q2 = 0 then (some (0 : Int32)) else (some (1 : Int32))))))
set_option maxRecDepth 20000 in
set_option maxHeartbeats 2000000 in
theorem f_X11_isTied_snd {fm : Value} {L : Nat} {xs : Nat → Int32} (y : mY) (x : mX) : mS fm L xs (fun r : Int32 => (.int r, (mk x y))) pg_X11_isTied 0 (m_entry [.ref 279] 1) [] (mk x y) ((f_X11_isTied y)) := by
  unfold f_X11_isTied
  refine mS_steps (pc' := 0) (ls' := [.ref 279]) (st' := []) (mem' := (mk x y)) 0 rfl ?_
  refine mS_steps (pc' := 5) (ls' := [.ref 279]) (st' := [.int (0 : Int32), .ref 289]) (mem' := (mk x y)) 3 rfl ?_
  refine mS_aldc (b := 0) (n := 72) (c := 0) (z := (y.1 289 0)) rfl (by decide) rfl (by decide) (by decide) (by decide) rfl ?_
  refine mS_bind (fun q1 hq1 => mS_call 144 1 [.int (y.1 289 0)] [] rfl rfl rfl ⟨_, _, _, rfl, rfl⟩ (Nat.le_of_ble_eq_true rfl) (Nat.le_of_ble_eq_true rfl) hq1 (f_X11_bitsOf_snd (y.1 289 0) (mk x y)) ?_)
  refine mS_steps (pc' := 10) (ls' := [.ref 279]) (st' := [.int (2 : Int32), .int q1]) (mem' := (mk x y)) 1 rfl ?_
  refine mS_ic2 rfl (fun _ => ?_) (fun _ => ?_)
  · refine mS_steps (pc' := 32) (ls' := [.ref 279]) (st' := [.int (1 : Int32)]) (mem' := (mk x y)) 2 rfl ?_
    exact mS_reti ⟨_, _, _, _, _, rfl, (by decide)⟩ rfl
  · refine mS_steps (pc' := 20) (ls' := [.ref 279]) (st' := [.int (0 : Int32), .ref 289, .int (2 : Int32), .ref 279]) (mem' := (mk x y)) 5 rfl ?_
    refine mS_aldc (b := 0) (n := 72) (c := 0) (z := (y.1 289 0)) rfl (by decide) rfl (by decide) (by decide) (by decide) rfl ?_
    refine mS_bind (fun q2 hq2 => mS_call 148 3 [.ref 279, .int (2 : Int32), .int (y.1 289 0)] [] rfl rfl rfl ⟨_, _, _, rfl, rfl⟩ (Nat.le_of_ble_eq_true rfl) (Nat.le_of_ble_eq_true rfl) hq2 (f_X11_isTight_snd (2 : Int32) (y.1 289 0) y x) ?_)
    refine mS_steps (pc' := 24) (ls' := [.ref 279]) (st' := [.int q2]) (mem' := (mk x y)) 0 rfl ?_
    refine mS_if0 rfl (fun _ => ?_) (fun _ => ?_)
    · refine mS_steps (pc' := 32) (ls' := [.ref 279]) (st' := [.int (0 : Int32)]) (mem' := (mk x y)) 1 rfl ?_
      exact mS_reti ⟨_, _, _, _, _, rfl, (by decide)⟩ rfl
    · refine mS_steps (pc' := 32) (ls' := [.ref 279]) (st' := [.int (1 : Int32)]) (mem' := (mk x y)) 2 rfl ?_
      exact mS_reti ⟨_, _, _, _, _, rfl, (by decide)⟩ rfl
def f_X11_nextPick_L4 (a1 : Int32) : Nat → Int32 → mY → (Int32 → Option (Int32 × mY)) → Option (Int32 × mY)
  | 0, _, _, _ => none
  | n + 1, a2, y, k28 => (if a2 < 0 then (some ((0 : Int32), y)) else (if m_in a2 4 = true then (if (y.1 314 a2.toNatClampNeg) < (((y.1 279 62) - a1) + a2) then (k28 a2) else (f_X11_nextPick_L4 a1 n (a2 + (-1 : Int32)) y k28)) else none))
def f_X11_nextPick_L42 (a1 : Int32) : Nat → Int32 → mY → Option (Int32 × mY)
  | 0, _, _ => none
  | n + 1, a3, y => (if a1 ≤ a3 then (some ((1 : Int32), y)) else (if m_in (a3 - (1 : Int32)) 4 = true then (if m_in a3 4 = true then (m_let (m_ys y 314 a3.toNatClampNeg ((y.1 314 (a3 - (1 : Int32)).toNatClampNeg) + (1 : Int32))) fun y3 => (f_X11_nextPick_L42 a1 n (a3 + (1 : Int32)) y3)) else none) else none))
def f_X11_nextPick (p1 : Int32) (y : mY) : Option (Int32 × mY) := (f_X11_nextPick_L4 p1 mF (p1 - (1 : Int32)) y (fun v1 => (if m_in v1 4 = true then (if m_in v1 4 = true then (m_let (m_ys y 314 v1.toNatClampNeg ((y.1 314 v1.toNatClampNeg) + (1 : Int32))) fun y2 => (f_X11_nextPick_L42 p1 mF (v1 + (1 : Int32)) y2)) else none) else none)))
set_option maxRecDepth 20000 in
set_option maxHeartbeats 2000000 in
theorem f_X11_nextPick_L4_snd {fm : Value} {L : Nat} {xs : Nat → Int32} (a1 : Int32) (y : mY) (x : mX) (k28 : Int32 → Option (Int32 × mY)) (hk28 : ∀ (b2 : Int32), mS fm L xs (fun r : (Int32 × mY) => (.int r.1, mk x r.2)) pg_X11_nextPick 28 [.ref 279, .int a1, .int b2, mU] [] (mk x y) (k28 b2)) : ∀ (n : Nat) (a2 : Int32), mS fm L xs (fun r : (Int32 × mY) => (.int r.1, mk x r.2)) pg_X11_nextPick 4 [.ref 279, .int a1, .int a2, mU] [] (mk x y) (f_X11_nextPick_L4 a1 n a2 y k28) := by
  intro n
  induction n with
  | zero => intro a2; exact mS_none
  | succ n ih =>
    intro a2
    rw [f_X11_nextPick_L4]
    refine mS_steps (pc' := 5) (ls' := [.ref 279, .int a1, .int a2, mU]) (st' := [.int a2]) (mem' := (mk x y)) 1 rfl ?_
    refine mS_if2 rfl (fun _ => ?_) (fun _ => ?_)
    · refine mS_steps (pc' := 78) (ls' := [.ref 279, .int a1, .int a2, mU]) (st' := [.int (0 : Int32)]) (mem' := (mk x y)) 1 rfl ?_
      exact mS_reti ⟨_, _, _, _, _, rfl, (by decide)⟩ rfl
    · refine mS_steps (pc' := 13) (ls' := [.ref 279, .int a1, .int a2, mU]) (st' := [.int a2, .ref 314]) (mem' := (mk x y)) 3 rfl ?_
      refine mS_ald (b := 0) (n := 4) (z := (y.1 314 a2.toNatClampNeg)) rfl (by decide) rfl (by decide) rfl (fun _ => ?_)
      refine mS_steps (pc' := 22) (ls' := [.ref 279, .int a1, .int a2, mU]) (st' := [.int (((y.1 279 62) - a1) + a2), .int (y.1 314 a2.toNatClampNeg)]) (mem' := (mk x y)) 6 rfl ?_
      refine mS_ic2 rfl (fun _ => ?_) (fun _ => ?_)
      · exact hk28 a2
      · refine mS_steps (pc' := 4) (ls' := [.ref 279, .int a1, .int (a2 + (-1 : Int32)), mU]) (st' := []) (mem' := (mk x y)) 3 rfl ?_
        exact ih (a2 + (-1 : Int32))
set_option maxRecDepth 20000 in
set_option maxHeartbeats 2000000 in
theorem f_X11_nextPick_L42_snd {fm : Value} {L : Nat} {xs : Nat → Int32} (a1 : Int32) (x : mX) : ∀ (n : Nat) (a3 : Int32) (y : mY), mS fm L xs (fun r : (Int32 × mY) => (.int r.1, mk x r.2)) pg_X11_nextPick 42 [.ref 279, .int a1, mU, .int a3] [] (mk x y) (f_X11_nextPick_L42 a1 n a3 y) := by
  intro n
  induction n with
  | zero => intro a3 y; exact mS_none
  | succ n ih =>
    intro a3 y
    rw [f_X11_nextPick_L42]
    refine mS_steps (pc' := 44) (ls' := [.ref 279, .int a1, mU, .int a3]) (st' := [.int a1, .int a3]) (mem' := (mk x y)) 2 rfl ?_
    refine mS_ic3 rfl (fun _ => ?_) (fun _ => ?_)
    · refine mS_steps (pc' := 70) (ls' := [.ref 279, .int a1, mU, .int a3]) (st' := [.int (1 : Int32)]) (mem' := (mk x y)) 1 rfl ?_
      exact mS_reti ⟨_, _, _, _, _, rfl, (by decide)⟩ rfl
    · refine mS_steps (pc' := 59) (ls' := [.ref 279, .int a1, mU, .int a3]) (st' := [.int (a3 - (1 : Int32)), .ref 314, .int a3, .ref 314]) (mem' := (mk x y)) 8 rfl ?_
      refine mS_ald (b := 0) (n := 4) (z := (y.1 314 (a3 - (1 : Int32)).toNatClampNeg)) rfl (by decide) rfl (by decide) rfl (fun _ => ?_)
      refine mS_steps (pc' := 62) (ls' := [.ref 279, .int a1, mU, .int a3]) (st' := [.int ((y.1 314 (a3 - (1 : Int32)).toNatClampNeg) + (1 : Int32)), .int a3, .ref 314]) (mem' := (mk x y)) 2 rfl ?_
      refine mS_ast0y (n := 4) rfl rfl (by decide) (fun _ => ?_)
      refine mS_lety (fun y3 => ?_)
      refine mS_steps (pc' := 42) (ls' := [.ref 279, .int a1, mU, .int (a3 + (1 : Int32))]) (st' := []) (mem' := (mk x y3)) 2 rfl ?_
      exact ih (a3 + (1 : Int32)) y3
set_option maxRecDepth 20000 in
set_option maxHeartbeats 2000000 in
theorem f_X11_nextPick_snd {fm : Value} {L : Nat} {xs : Nat → Int32} (p1 : Int32) (y : mY) (x : mX) : mS fm L xs (fun r : (Int32 × mY) => (.int r.1, mk x r.2)) pg_X11_nextPick 0 (m_entry [.ref 279, .int p1] 4) [] (mk x y) ((f_X11_nextPick p1 y)) := by
  unfold f_X11_nextPick
  refine mS_steps (pc' := 0) (ls' := [.ref 279, .int p1, mU, mU]) (st' := []) (mem' := (mk x y)) 0 rfl ?_
  refine mS_steps (pc' := 4) (ls' := [.ref 279, .int p1, .int (p1 - (1 : Int32)), mU]) (st' := []) (mem' := (mk x y)) 4 rfl ?_
  refine f_X11_nextPick_L4_snd p1 y x _ ?_ mF (p1 - (1 : Int32))
  · intro v1
    refine mS_steps (pc' := 34) (ls' := [.ref 279, .int p1, .int v1, mU]) (st' := [.int v1, .ref 314, .int v1, .ref 314]) (mem' := (mk x y)) 4 rfl ?_
    refine mS_ald (b := 0) (n := 4) (z := (y.1 314 v1.toNatClampNeg)) rfl (by decide) rfl (by decide) rfl (fun _ => ?_)
    refine mS_steps (pc' := 37) (ls' := [.ref 279, .int p1, .int v1, mU]) (st' := [.int ((y.1 314 v1.toNatClampNeg) + (1 : Int32)), .int v1, .ref 314]) (mem' := (mk x y)) 2 rfl ?_
    refine mS_ast0y (n := 4) rfl rfl (by decide) (fun _ => ?_)
    refine mS_lety (fun y2 => ?_)
    refine mS_steps (pc' := 42) (ls' := [.ref 279, .int p1, .int v1, .int (v1 + (1 : Int32))]) (st' := []) (mem' := (mk x y2)) 4 rfl ?_
    refine mS_forget [.ref 279, .int p1, mU, .int (v1 + (1 : Int32))] ⟨Or.inr rfl, Or.inr rfl, Or.inl rfl, Or.inr rfl, trivial⟩ ?_
    refine f_X11_nextPick_L42_snd p1 x mF (v1 + (1 : Int32)) y2
def f_X11_areEnough_L12 (a1 : Int32) : Nat → Int32 → mY → (mY → Option (Int32 × mY)) → Option (Int32 × mY)
  | 0, _, _, _ => none
  | n + 1, a2, y, k30 => (if a1 ≤ a2 then (k30 y) else (if m_in a2 4 = true then (m_let (m_ys y 314 a2.toNatClampNeg a2) fun y1 => (f_X11_areEnough_L12 a1 n (a2 + (1 : Int32)) y1 k30)) else none))
def f_X11_areEnough_L43 (a1 : Int32) : Nat → Int32 → mY → (mY → Option (Int32 × mY)) → Option (Int32 × mY)
  | 0, _, _, _ => none
  | n + 1, a3, y, k120 => (if a1 ≤ a3 then (k120 y) else (if m_in a3 4 = true then (if m_in (y.1 314 a3.toNatClampNeg) 28 = true then (if m_in a3 4 = true then (if m_in (y.1 314 a3.toNatClampNeg) 28 = true then (if m_in ((16 : Int32) + ((y.1 313 (y.1 314 a3.toNatClampNeg).toNatClampNeg) / (10 : Int32))) 24 = true then (if m_in ((16 : Int32) + ((y.1 313 (y.1 314 a3.toNatClampNeg).toNatClampNeg) / (10 : Int32))) 24 = true then (m_let (m_ys y 293 ((16 : Int32) + ((y.1 313 (y.1 314 a3.toNatClampNeg).toNatClampNeg) / (10 : Int32))).toNatClampNeg ((y.1 293 ((16 : Int32) + ((y.1 313 (y.1 314 a3.toNatClampNeg).toNatClampNeg) / (10 : Int32))).toNatClampNeg) ||| ((1 : Int32) <<< (((y.1 313 (y.1 314 a3.toNatClampNeg).toNatClampNeg) - (y.1 313 (y.1 314 a3.toNatClampNeg).toNatClampNeg) / (10 : Int32) * (10 : Int32)) &&& 31)))) fun y5 => (if m_in ((16 : Int32) + ((y.1 313 (y.1 314 a3.toNatClampNeg).toNatClampNeg) - (y.1 313 (y.1 314 a3.toNatClampNeg).toNatClampNeg) / (10 : Int32) * (10 : Int32))) 24 = true then (if m_in ((16 : Int32) + ((y.1 313 (y.1 314 a3.toNatClampNeg).toNatClampNeg) - (y.1 313 (y.1 314 a3.toNatClampNeg).toNatClampNeg) / (10 : Int32) * (10 : Int32))) 24 = true then (m_let (m_ys y5 293 ((16 : Int32) + ((y.1 313 (y.1 314 a3.toNatClampNeg).toNatClampNeg) - (y.1 313 (y.1 314 a3.toNatClampNeg).toNatClampNeg) / (10 : Int32) * (10 : Int32))).toNatClampNeg ((y5.1 293 ((16 : Int32) + ((y.1 313 (y.1 314 a3.toNatClampNeg).toNatClampNeg) - (y.1 313 (y.1 314 a3.toNatClampNeg).toNatClampNeg) / (10 : Int32) * (10 : Int32))).toNatClampNeg) ||| ((1 : Int32) <<< (((y.1 313 (y.1 314 a3.toNatClampNeg).toNatClampNeg) / (10 : Int32)) &&& 31)))) fun y6 => (f_X11_areEnough_L43 a1 n (a3 + (1 : Int32)) y6 k120)) else none) else none)) else none) else none) else none) else none) else none) else none))
def f_X11_areEnough_L35 (a1 : Int32) (a2 : Int32) : Nat → mY → Option (Int32 × mY)
  | 0, _ => none
  | n + 1, y => ((f_X11_lays_ (2 : Int32) a2 y).bind fun q4 => (f_X11_areEnough_L43 a1 mF (0 : Int32) q4 (fun y7 => ((f_X11_isTied y7).bind fun q8 => (if q8 = 0 then ((f_X11_nextPick a1 y7).bind fun q9 => (if q9.1 = 0 then (some ((0 : Int32), q9.2)) else (f_X11_areEnough_L35 a1 a2 n q9.2))) else (some ((1 : Int32), y7)))))))
def f_X11_areEnough (p1 : Int32) (y : mY) : Option (Int32 × mY) := (if p1 ≤ (y.1 279 62) then (f_X11_areEnough_L12 p1 mF (0 : Int32) y (fun y2 => ((f_X11_netLinks y2).bind fun q3 => (f_X11_areEnough_L35 p1 q3 mF y2)))) else (some ((0 : Int32), y)))
set_option maxRecDepth 20000 in
set_option maxHeartbeats 2000000 in
theorem f_X11_areEnough_L12_snd {fm : Value} {L : Nat} {xs : Nat → Int32} (a1 : Int32) (x : mX) (k30 : mY → Option (Int32 × mY)) (hk30 : ∀ (z0 : mY), mS fm L xs (fun r : (Int32 × mY) => (.int r.1, mk x r.2)) pg_X11_areEnough 30 [.ref 279, .int a1, mU, mU, mU, mU] [] (mk x z0) (k30 z0)) : ∀ (n : Nat) (a2 : Int32) (y : mY), mS fm L xs (fun r : (Int32 × mY) => (.int r.1, mk x r.2)) pg_X11_areEnough 12 [.ref 279, .int a1, .int a2, mU, mU, mU] [] (mk x y) (f_X11_areEnough_L12 a1 n a2 y k30) := by
  intro n
  induction n with
  | zero => intro a2 y; exact mS_none
  | succ n ih =>
    intro a2 y
    rw [f_X11_areEnough_L12]
    refine mS_steps (pc' := 14) (ls' := [.ref 279, .int a1, .int a2, mU, mU, mU]) (st' := [.int a1, .int a2]) (mem' := (mk x y)) 2 rfl ?_
    refine mS_ic3 rfl (fun _ => ?_) (fun _ => ?_)
    · refine mS_forget [.ref 279, .int a1, mU, mU, mU, mU] ⟨Or.inr rfl, Or.inr rfl, Or.inl rfl, Or.inl rfl, Or.inl rfl, Or.inl rfl, trivial⟩ ?_
      exact hk30 y
    · refine mS_steps (pc' := 23) (ls' := [.ref 279, .int a1, .int a2, mU, mU, mU]) (st' := [.int a2, .int a2, .ref 314]) (mem' := (mk x y)) 4 rfl ?_
      refine mS_ast0y (n := 4) rfl rfl (by decide) (fun _ => ?_)
      refine mS_lety (fun y1 => ?_)
      refine mS_steps (pc' := 12) (ls' := [.ref 279, .int a1, .int (a2 + (1 : Int32)), mU, mU, mU]) (st' := []) (mem' := (mk x y1)) 2 rfl ?_
      exact ih (a2 + (1 : Int32)) y1
set_option maxRecDepth 20000 in
set_option maxHeartbeats 2000000 in
theorem f_X11_areEnough_L43_snd {fm : Value} {L : Nat} {xs : Nat → Int32} (a1 : Int32) (a2 : Int32) (x : mX) (k120 : mY → Option (Int32 × mY)) (hk120 : ∀ (z0 : mY), mS fm L xs (fun r : (Int32 × mY) => (.int r.1, mk x r.2)) pg_X11_areEnough 120 [.ref 279, .int a1, .int a2, mU, mU, mU] [] (mk x z0) (k120 z0)) : ∀ (n : Nat) (a3 : Int32) (y : mY), mS fm L xs (fun r : (Int32 × mY) => (.int r.1, mk x r.2)) pg_X11_areEnough 43 [.ref 279, .int a1, .int a2, .int a3, mU, mU] [] (mk x y) (f_X11_areEnough_L43 a1 n a3 y k120) := by
  intro n
  induction n with
  | zero => intro a3 y; exact mS_none
  | succ n ih =>
    intro a3 y
    rw [f_X11_areEnough_L43]
    refine mS_steps (pc' := 45) (ls' := [.ref 279, .int a1, .int a2, .int a3, mU, mU]) (st' := [.int a1, .int a3]) (mem' := (mk x y)) 2 rfl ?_
    refine mS_ic3 rfl (fun _ => ?_) (fun _ => ?_)
    · refine mS_forget [.ref 279, .int a1, .int a2, mU, mU, mU] ⟨Or.inr rfl, Or.inr rfl, Or.inr rfl, Or.inl rfl, Or.inl rfl, Or.inl rfl, trivial⟩ ?_
      exact hk120 y
    · refine mS_steps (pc' := 57) (ls' := [.ref 279, .int a1, .int a2, .int a3, mU, mU]) (st' := [.int a3, .ref 314, .ref 313]) (mem' := (mk x y)) 5 rfl ?_
      refine mS_ald (b := 0) (n := 4) (z := (y.1 314 a3.toNatClampNeg)) rfl (by decide) rfl (by decide) rfl (fun _ => ?_)
      refine mS_ald (b := 0) (n := 28) (z := (y.1 313 (y.1 314 a3.toNatClampNeg).toNatClampNeg)) rfl (by decide) rfl (by decide) rfl (fun _ => ?_)
      refine mS_steps (pc' := 61) (ls' := [.ref 279, .int a1, .int a2, .int a3, mU, mU]) (st' := [.int (10 : Int32), .int (y.1 313 (y.1 314 a3.toNatClampNeg).toNatClampNeg)]) (mem' := (mk x y)) 1 rfl ?_
      refine mS_div rfl (by decide) ?_
      refine mS_steps (pc' := 73) (ls' := [.ref 279, .int a1, .int a2, .int a3, .int ((y.1 313 (y.1 314 a3.toNatClampNeg).toNatClampNeg) / (10 : Int32)), mU]) (st' := [.int a3, .ref 314, .ref 313]) (mem' := (mk x y)) 6 rfl ?_
      refine mS_ald (b := 0) (n := 4) (z := (y.1 314 a3.toNatClampNeg)) rfl (by decide) rfl (by decide) rfl (fun _ => ?_)
      refine mS_ald (b := 0) (n := 28) (z := (y.1 313 (y.1 314 a3.toNatClampNeg).toNatClampNeg)) rfl (by decide) rfl (by decide) rfl (fun _ => ?_)
      refine mS_steps (pc' := 77) (ls' := [.ref 279, .int a1, .int a2, .int a3, .int ((y.1 313 (y.1 314 a3.toNatClampNeg).toNatClampNeg) / (10 : Int32)), mU]) (st' := [.int (10 : Int32), .int (y.1 313 (y.1 314 a3.toNatClampNeg).toNatClampNeg)]) (mem' := (mk x y)) 1 rfl ?_
      refine mS_rem rfl (by decide) ?_
      refine mS_steps (pc' := 90) (ls' := [.ref 279, .int a1, .int a2, .int a3, .int ((y.1 313 (y.1 314 a3.toNatClampNeg).toNatClampNeg) / (10 : Int32)), .int ((y.1 313 (y.1 314 a3.toNatClampNeg).toNatClampNeg) - (y.1 313 (y.1 314 a3.toNatClampNeg).toNatClampNeg) / (10 : Int32) * (10 : Int32))]) (st' := [.int ((16 : Int32) + ((y.1 313 (y.1 314 a3.toNatClampNeg).toNatClampNeg) / (10 : Int32))), .ref 293, .int ((16 : Int32) + ((y.1 313 (y.1 314 a3.toNatClampNeg).toNatClampNeg) / (10 : Int32))), .ref 293]) (mem' := (mk x y)) 7 rfl ?_
      refine mS_ald (b := 0) (n := 24) (z := (y.1 293 ((16 : Int32) + ((y.1 313 (y.1 314 a3.toNatClampNeg).toNatClampNeg) / (10 : Int32))).toNatClampNeg)) rfl (by decide) rfl (by decide) rfl (fun _ => ?_)
      refine mS_steps (pc' := 96) (ls' := [.ref 279, .int a1, .int a2, .int a3, .int ((y.1 313 (y.1 314 a3.toNatClampNeg).toNatClampNeg) / (10 : Int32)), .int ((y.1 313 (y.1 314 a3.toNatClampNeg).toNatClampNeg) - (y.1 313 (y.1 314 a3.toNatClampNeg).toNatClampNeg) / (10 : Int32) * (10 : Int32))]) (st' := [.int ((y.1 293 ((16 : Int32) + ((y.1 313 (y.1 314 a3.toNatClampNeg).toNatClampNeg) / (10 : Int32))).toNatClampNeg) ||| ((1 : Int32) <<< (((y.1 313 (y.1 314 a3.toNatClampNeg).toNatClampNeg) - (y.1 313 (y.1 314 a3.toNatClampNeg).toNatClampNeg) / (10 : Int32) * (10 : Int32)) &&& 31))), .int ((16 : Int32) + ((y.1 313 (y.1 314 a3.toNatClampNeg).toNatClampNeg) / (10 : Int32))), .ref 293]) (mem' := (mk x y)) 4 rfl ?_
      refine mS_ast0y (n := 24) rfl rfl (by decide) (fun _ => ?_)
      refine mS_lety (fun y5 => ?_)
      refine mS_steps (pc' := 107) (ls' := [.ref 279, .int a1, .int a2, .int a3, .int ((y.1 313 (y.1 314 a3.toNatClampNeg).toNatClampNeg) / (10 : Int32)), .int ((y.1 313 (y.1 314 a3.toNatClampNeg).toNatClampNeg) - (y.1 313 (y.1 314 a3.toNatClampNeg).toNatClampNeg) / (10 : Int32) * (10 : Int32))]) (st' := [.int ((16 : Int32) + ((y.1 313 (y.1 314 a3.toNatClampNeg).toNatClampNeg) - (y.1 313 (y.1 314 a3.toNatClampNeg).toNatClampNeg) / (10 : Int32) * (10 : Int32))), .ref 293, .int ((16 : Int32) + ((y.1 313 (y.1 314 a3.toNatClampNeg).toNatClampNeg) - (y.1 313 (y.1 314 a3.toNatClampNeg).toNatClampNeg) / (10 : Int32) * (10 : Int32))), .ref 293]) (mem' := (mk x y5)) 6 rfl ?_
      refine mS_ald (b := 0) (n := 24) (z := (y5.1 293 ((16 : Int32) + ((y.1 313 (y.1 314 a3.toNatClampNeg).toNatClampNeg) - (y.1 313 (y.1 314 a3.toNatClampNeg).toNatClampNeg) / (10 : Int32) * (10 : Int32))).toNatClampNeg)) rfl (by decide) rfl (by decide) rfl (fun _ => ?_)
      refine mS_steps (pc' := 113) (ls' := [.ref 279, .int a1, .int a2, .int a3, .int ((y.1 313 (y.1 314 a3.toNatClampNeg).toNatClampNeg) / (10 : Int32)), .int ((y.1 313 (y.1 314 a3.toNatClampNeg).toNatClampNeg) - (y.1 313 (y.1 314 a3.toNatClampNeg).toNatClampNeg) / (10 : Int32) * (10 : Int32))]) (st' := [.int ((y5.1 293 ((16 : Int32) + ((y.1 313 (y.1 314 a3.toNatClampNeg).toNatClampNeg) - (y.1 313 (y.1 314 a3.toNatClampNeg).toNatClampNeg) / (10 : Int32) * (10 : Int32))).toNatClampNeg) ||| ((1 : Int32) <<< (((y.1 313 (y.1 314 a3.toNatClampNeg).toNatClampNeg) / (10 : Int32)) &&& 31))), .int ((16 : Int32) + ((y.1 313 (y.1 314 a3.toNatClampNeg).toNatClampNeg) - (y.1 313 (y.1 314 a3.toNatClampNeg).toNatClampNeg) / (10 : Int32) * (10 : Int32))), .ref 293]) (mem' := (mk x y5)) 4 rfl ?_
      refine mS_ast0y (n := 24) rfl rfl (by decide) (fun _ => ?_)
      refine mS_lety (fun y6 => ?_)
      refine mS_steps (pc' := 43) (ls' := [.ref 279, .int a1, .int a2, .int (a3 + (1 : Int32)), .int ((y.1 313 (y.1 314 a3.toNatClampNeg).toNatClampNeg) / (10 : Int32)), .int ((y.1 313 (y.1 314 a3.toNatClampNeg).toNatClampNeg) - (y.1 313 (y.1 314 a3.toNatClampNeg).toNatClampNeg) / (10 : Int32) * (10 : Int32))]) (st' := []) (mem' := (mk x y6)) 2 rfl ?_
      refine mS_forget [.ref 279, .int a1, .int a2, .int (a3 + (1 : Int32)), mU, mU] ⟨Or.inr rfl, Or.inr rfl, Or.inr rfl, Or.inr rfl, Or.inl rfl, Or.inl rfl, trivial⟩ ?_
      exact ih (a3 + (1 : Int32)) y6
set_option maxRecDepth 20000 in
set_option maxHeartbeats 2000000 in
theorem f_X11_areEnough_L35_snd {fm : Value} {L : Nat} {xs : Nat → Int32} (a1 : Int32) (a2 : Int32) (x : mX) : ∀ (n : Nat) (y : mY), mS fm L xs (fun r : (Int32 × mY) => (.int r.1, mk x r.2)) pg_X11_areEnough 35 [.ref 279, .int a1, .int a2, mU, mU, mU] [] (mk x y) (f_X11_areEnough_L35 a1 a2 n y) := by
  intro n
  induction n with
  | zero => intro y; exact mS_none
  | succ n ih =>
    intro y
    rw [f_X11_areEnough_L35]
    refine mS_steps (pc' := 38) (ls' := [.ref 279, .int a1, .int a2, mU, mU, mU]) (st' := [.int a2, .int (2 : Int32), .ref 279]) (mem' := (mk x y)) 3 rfl ?_
    refine mS_bind (fun q4 hq4 => mS_call 142 3 [.ref 279, .int (2 : Int32), .int a2] [] rfl rfl rfl ⟨_, _, _, rfl, rfl⟩ (Nat.le_of_ble_eq_true rfl) (Nat.le_of_ble_eq_true rfl) hq4 (f_X11_lays__snd (2 : Int32) a2 y x) ?_)
    refine mS_steps (pc' := 43) (ls' := [.ref 279, .int a1, .int a2, .int (0 : Int32), mU, mU]) (st' := []) (mem' := (mk x q4)) 2 rfl ?_
    refine f_X11_areEnough_L43_snd a1 a2 x _ ?_ mF (0 : Int32) q4
    · intro y7
      refine mS_steps (pc' := 121) (ls' := [.ref 279, .int a1, .int a2, mU, mU, mU]) (st' := [.ref 279]) (mem' := (mk x y7)) 1 rfl ?_
      refine mS_bind (fun q8 hq8 => mS_call 263 1 [.ref 279] [] rfl rfl rfl ⟨_, _, _, rfl, rfl⟩ (Nat.le_of_ble_eq_true rfl) (Nat.le_of_ble_eq_true rfl) hq8 (f_X11_isTied_snd  y7 x) ?_)
      refine mS_steps (pc' := 124) (ls' := [.ref 279, .int a1, .int a2, mU, mU, mU]) (st' := [.int q8]) (mem' := (mk x y7)) 0 rfl ?_
      refine mS_if0 rfl (fun _ => ?_) (fun _ => ?_)
      · refine mS_steps (pc' := 131) (ls' := [.ref 279, .int a1, .int a2, mU, mU, mU]) (st' := [.int a1, .ref 279]) (mem' := (mk x y7)) 2 rfl ?_
        refine mS_bind (fun q9 hq9 => mS_call 264 2 [.ref 279, .int a1] [] rfl rfl rfl ⟨_, _, _, rfl, rfl⟩ (Nat.le_of_ble_eq_true rfl) (Nat.le_of_ble_eq_true rfl) hq9 (f_X11_nextPick_snd a1 y7 x) ?_)
        refine mS_steps (pc' := 134) (ls' := [.ref 279, .int a1, .int a2, mU, mU, mU]) (st' := [.int q9.1]) (mem' := (mk x q9.2)) 0 rfl ?_
        refine mS_if1 rfl (fun _ => ?_) (fun _ => ?_)
        · refine mS_steps (pc' := 138) (ls' := [.ref 279, .int a1, .int a2, mU, mU, mU]) (st' := [.int (0 : Int32)]) (mem' := (mk x q9.2)) 1 rfl ?_
          exact mS_reti ⟨_, _, _, _, _, rfl, (by decide)⟩ rfl
        · exact ih q9.2
      · refine mS_steps (pc' := 128) (ls' := [.ref 279, .int a1, .int a2, mU, mU, mU]) (st' := [.int (1 : Int32)]) (mem' := (mk x y7)) 1 rfl ?_
        exact mS_reti ⟨_, _, _, _, _, rfl, (by decide)⟩ rfl
set_option maxRecDepth 20000 in
set_option maxHeartbeats 2000000 in
theorem f_X11_areEnough_snd {fm : Value} {L : Nat} {xs : Nat → Int32} (p1 : Int32) (y : mY) (x : mX) : mS fm L xs (fun r : (Int32 × mY) => (.int r.1, mk x r.2)) pg_X11_areEnough 0 (m_entry [.ref 279, .int p1] 6) [] (mk x y) ((f_X11_areEnough p1 y)) := by
  unfold f_X11_areEnough
  refine mS_steps (pc' := 0) (ls' := [.ref 279, .int p1, mU, mU, mU, mU]) (st' := []) (mem' := (mk x y)) 0 rfl ?_
  refine mS_steps (pc' := 5) (ls' := [.ref 279, .int p1, mU, mU, mU, mU]) (st' := [.int (y.1 279 62), .int p1]) (mem' := (mk x y)) 3 rfl ?_
  refine mS_ic5 rfl (fun _ => ?_) (fun _ => ?_)
  · refine mS_steps (pc' := 12) (ls' := [.ref 279, .int p1, .int (0 : Int32), mU, mU, mU]) (st' := []) (mem' := (mk x y)) 2 rfl ?_
    refine f_X11_areEnough_L12_snd p1 x _ ?_ mF (0 : Int32) y
    · intro y2
      refine mS_steps (pc' := 31) (ls' := [.ref 279, .int p1, mU, mU, mU, mU]) (st' := [.ref 279]) (mem' := (mk x y2)) 1 rfl ?_
      refine mS_bind (fun q3 hq3 => mS_call 89 1 [.ref 279] [] rfl rfl rfl ⟨_, _, _, rfl, rfl⟩ (Nat.le_of_ble_eq_true rfl) (Nat.le_of_ble_eq_true rfl) hq3 (f_X11_netLinks_snd  y2 x) ?_)
      refine mS_steps (pc' := 35) (ls' := [.ref 279, .int p1, .int q3, mU, mU, mU]) (st' := []) (mem' := (mk x y2)) 1 rfl ?_
      refine f_X11_areEnough_L35_snd p1 q3 x mF y2
  · refine mS_steps (pc' := 9) (ls' := [.ref 279, .int p1, mU, mU, mU, mU]) (st' := [.int (0 : Int32)]) (mem' := (mk x y)) 1 rfl ?_
    exact mS_reti ⟨_, _, _, _, _, rfl, (by decide)⟩ rfl
def f_X11_grow_L25 (a2 : Int32) : Nat → Int32 → mY → (mY → Option (Int32 × mY)) → Option (Int32 × mY)
  | 0, _, _, _ => none
  | n + 1, a3, y, k96 => (if (y.1 279 17) ≤ a3 then (k96 y) else ((f_X11_isOn a2 y).bind fun q3 => (if q3 = 0 then (f_X11_grow_L25 a2 n (a3 + (1 : Int32)) y k96) else ((f_X11_isOn a3 y).bind fun q4 => (if q4 = 0 then (f_X11_grow_L25 a2 n (a3 + (1 : Int32)) y k96) else (if m_in a2 24 = true then (if (f_X11_has (y.1 293 a2.toNatClampNeg) a3) = 0 then (if m_in (y.1 279 62) 28 = true then (m_let (m_ys y 313 (y.1 279 62).toNatClampNeg (((10 : Int32) * a2) + a3)) fun y5 => (m_let (m_ys y5 279 62 ((y5.1 279 62) + (1 : Int32))) fun y6 => (f_X11_grow_L25 a2 n (a3 + (1 : Int32)) y6 k96))) else none) else (f_X11_grow_L25 a2 n (a3 + (1 : Int32)) y k96)) else none))))))
def f_X11_grow_L13 : Nat → Int32 → mY → (mY → Option (Int32 × mY)) → Option (Int32 × mY)
  | 0, _, _, _ => none
  | n + 1, a2, y, k102 => (if (y.1 279 17) ≤ a2 then (k102 y) else (f_X11_grow_L25 a2 mF (a2 + (1 : Int32)) y (fun y7 => (f_X11_grow_L13 n (a2 + (1 : Int32)) y7 k102))))
def f_X11_grow_L104 : Nat → Int32 → mY → (Int32 → mY → Option (Int32 × mY)) → Option (Int32 × mY)
  | 0, _, _, _ => none
  | n + 1, a2, y, k120 => (if (4 : Int32) < a2 then (some ((-2 : Int32), y)) else ((f_X11_areEnough a2 y).bind fun q9 => (if q9.1 = 0 then (f_X11_grow_L104 n (a2 + (1 : Int32)) q9.2 k120) else (k120 a2 q9.2))))
def f_X11_grow (p1 : Int32) (y : mY) : Option (Int32 × mY) := ((f_X11_laysNet (0 : Int32) y).bind fun q1 => (m_let (m_ys q1.2 279 62 (0 : Int32)) fun y2 => (f_X11_grow_L13 mF (0 : Int32) y2 (fun y8 => (f_X11_grow_L104 mF (0 : Int32) y8 (fun v10 y11 => (if p1 = (-1 : Int32) then (some (v10, y11)) else (if (f_X11_in p1 (0 : Int32) (v10 - (1 : Int32))) = 0 then (some ((-1 : Int32), y11)) else (if m_in p1 4 = true then (if m_in (y11.1 314 p1.toNatClampNeg) 28 = true then (some ((y11.1 313 (y11.1 314 p1.toNatClampNeg).toNatClampNeg), y11)) else none) else none)))))))))
set_option maxRecDepth 20000 in
set_option maxHeartbeats 2000000 in
theorem f_X11_grow_L25_snd {fm : Value} {L : Nat} {xs : Nat → Int32} (a1 : Int32) (a2 : Int32) (x : mX) (k96 : mY → Option (Int32 × mY)) (hk96 : ∀ (z0 : mY), mS fm L xs (fun r : (Int32 × mY) => (.int r.1, mk x r.2)) pg_X11_grow 96 [.ref 279, .int a1, .int a2, mU] [] (mk x z0) (k96 z0)) : ∀ (n : Nat) (a3 : Int32) (y : mY), mS fm L xs (fun r : (Int32 × mY) => (.int r.1, mk x r.2)) pg_X11_grow 25 [.ref 279, .int a1, .int a2, .int a3] [] (mk x y) (f_X11_grow_L25 a2 n a3 y k96) := by
  intro n
  induction n with
  | zero => intro a3 y; exact mS_none
  | succ n ih =>
    intro a3 y
    rw [f_X11_grow_L25]
    refine mS_steps (pc' := 30) (ls' := [.ref 279, .int a1, .int a2, .int a3]) (st' := [.int (y.1 279 17), .int a3]) (mem' := (mk x y)) 3 rfl ?_
    refine mS_ic3 rfl (fun _ => ?_) (fun _ => ?_)
    · refine mS_forget [.ref 279, .int a1, .int a2, mU] ⟨Or.inr rfl, Or.inr rfl, Or.inr rfl, Or.inl rfl, trivial⟩ ?_
      exact hk96 y
    · refine mS_steps (pc' := 35) (ls' := [.ref 279, .int a1, .int a2, .int a3]) (st' := [.int a2, .ref 279]) (mem' := (mk x y)) 2 rfl ?_
      refine mS_bind (fun q3 hq3 => mS_call 88 2 [.ref 279, .int a2] [] rfl rfl rfl ⟨_, _, _, rfl, rfl⟩ (Nat.le_of_ble_eq_true rfl) (Nat.le_of_ble_eq_true rfl) hq3 (f_X11_isOn_snd a2 y x) ?_)
      refine mS_steps (pc' := 38) (ls' := [.ref 279, .int a1, .int a2, .int a3]) (st' := [.int q3]) (mem' := (mk x y)) 0 rfl ?_
      refine mS_if0 rfl (fun _ => ?_) (fun _ => ?_)
      · refine mS_steps (pc' := 25) (ls' := [.ref 279, .int a1, .int a2, .int (a3 + (1 : Int32))]) (st' := []) (mem' := (mk x y)) 2 rfl ?_
        exact ih (a3 + (1 : Int32)) y
      · refine mS_steps (pc' := 43) (ls' := [.ref 279, .int a1, .int a2, .int a3]) (st' := [.int a3, .ref 279]) (mem' := (mk x y)) 2 rfl ?_
        refine mS_bind (fun q4 hq4 => mS_call 88 2 [.ref 279, .int a3] [] rfl rfl rfl ⟨_, _, _, rfl, rfl⟩ (Nat.le_of_ble_eq_true rfl) (Nat.le_of_ble_eq_true rfl) hq4 (f_X11_isOn_snd a3 y x) ?_)
        refine mS_steps (pc' := 46) (ls' := [.ref 279, .int a1, .int a2, .int a3]) (st' := [.int q4]) (mem' := (mk x y)) 0 rfl ?_
        refine mS_if0 rfl (fun _ => ?_) (fun _ => ?_)
        · refine mS_steps (pc' := 25) (ls' := [.ref 279, .int a1, .int a2, .int (a3 + (1 : Int32))]) (st' := []) (mem' := (mk x y)) 2 rfl ?_
          exact ih (a3 + (1 : Int32)) y
        · refine mS_steps (pc' := 54) (ls' := [.ref 279, .int a1, .int a2, .int a3]) (st' := [.int a2, .ref 293]) (mem' := (mk x y)) 3 rfl ?_
          refine mS_ald (b := 0) (n := 24) (z := (y.1 293 a2.toNatClampNeg)) rfl (by decide) rfl (by decide) rfl (fun _ => ?_)
          refine mS_steps (pc' := 56) (ls' := [.ref 279, .int a1, .int a2, .int a3]) (st' := [.int a3, .int (y.1 293 a2.toNatClampNeg)]) (mem' := (mk x y)) 1 rfl ?_
          refine mS_call (q := (f_X11_has (y.1 293 a2.toNatClampNeg) a3)) 87 2 [.int (y.1 293 a2.toNatClampNeg), .int a3] [] rfl rfl rfl ⟨_, _, _, rfl, rfl⟩ (Nat.le_of_ble_eq_true rfl) (Nat.le_of_ble_eq_true rfl) rfl (f_X11_has_snd (y.1 293 a2.toNatClampNeg) a3 (mk x y)) ?_
          refine mS_steps (pc' := 59) (ls' := [.ref 279, .int a1, .int a2, .int a3]) (st' := [.int (f_X11_has (y.1 293 a2.toNatClampNeg) a3)]) (mem' := (mk x y)) 0 rfl ?_
          refine mS_if0 rfl (fun _ => ?_) (fun _ => ?_)
          · refine mS_steps (pc' := 79) (ls' := [.ref 279, .int a1, .int a2, .int a3]) (st' := [.int (((10 : Int32) * a2) + a3), .int (y.1 279 62), .ref 313]) (mem' := (mk x y)) 9 rfl ?_
            refine mS_ast0y (n := 28) rfl rfl (by decide) (fun _ => ?_)
            refine mS_lety (fun y5 => ?_)
            refine mS_steps (pc' := 87) (ls' := [.ref 279, .int a1, .int a2, .int a3]) (st' := [.int ((y5.1 279 62) + (1 : Int32)), .ref 279]) (mem' := (mk x y5)) 5 rfl ?_
            refine mS_puty rfl rfl (by decide) rfl ?_
            refine mS_lety (fun y6 => ?_)
            refine mS_steps (pc' := 25) (ls' := [.ref 279, .int a1, .int a2, .int (a3 + (1 : Int32))]) (st' := []) (mem' := (mk x y6)) 2 rfl ?_
            exact ih (a3 + (1 : Int32)) y6
          · refine mS_steps (pc' := 25) (ls' := [.ref 279, .int a1, .int a2, .int (a3 + (1 : Int32))]) (st' := []) (mem' := (mk x y)) 3 rfl ?_
            exact ih (a3 + (1 : Int32)) y
set_option maxRecDepth 20000 in
set_option maxHeartbeats 2000000 in
theorem f_X11_grow_L13_snd {fm : Value} {L : Nat} {xs : Nat → Int32} (a1 : Int32) (x : mX) (k102 : mY → Option (Int32 × mY)) (hk102 : ∀ (z0 : mY), mS fm L xs (fun r : (Int32 × mY) => (.int r.1, mk x r.2)) pg_X11_grow 102 [.ref 279, .int a1, mU, mU] [] (mk x z0) (k102 z0)) : ∀ (n : Nat) (a2 : Int32) (y : mY), mS fm L xs (fun r : (Int32 × mY) => (.int r.1, mk x r.2)) pg_X11_grow 13 [.ref 279, .int a1, .int a2, mU] [] (mk x y) (f_X11_grow_L13 n a2 y k102) := by
  intro n
  induction n with
  | zero => intro a2 y; exact mS_none
  | succ n ih =>
    intro a2 y
    rw [f_X11_grow_L13]
    refine mS_steps (pc' := 18) (ls' := [.ref 279, .int a1, .int a2, mU]) (st' := [.int (y.1 279 17), .int a2]) (mem' := (mk x y)) 3 rfl ?_
    refine mS_ic3 rfl (fun _ => ?_) (fun _ => ?_)
    · refine mS_forget [.ref 279, .int a1, mU, mU] ⟨Or.inr rfl, Or.inr rfl, Or.inl rfl, Or.inl rfl, trivial⟩ ?_
      exact hk102 y
    · refine mS_steps (pc' := 25) (ls' := [.ref 279, .int a1, .int a2, .int (a2 + (1 : Int32))]) (st' := []) (mem' := (mk x y)) 4 rfl ?_
      refine f_X11_grow_L25_snd a1 a2 x _ ?_ mF (a2 + (1 : Int32)) y
      · intro y7
        refine mS_steps (pc' := 13) (ls' := [.ref 279, .int a1, .int (a2 + (1 : Int32)), mU]) (st' := []) (mem' := (mk x y7)) 2 rfl ?_
        exact ih (a2 + (1 : Int32)) y7
set_option maxRecDepth 20000 in
set_option maxHeartbeats 2000000 in
theorem f_X11_grow_L104_snd {fm : Value} {L : Nat} {xs : Nat → Int32} (a1 : Int32) (x : mX) (k120 : Int32 → mY → Option (Int32 × mY)) (hk120 : ∀ (b2 : Int32) (z0 : mY), mS fm L xs (fun r : (Int32 × mY) => (.int r.1, mk x r.2)) pg_X11_grow 120 [.ref 279, .int a1, .int b2, mU] [] (mk x z0) (k120 b2 z0)) : ∀ (n : Nat) (a2 : Int32) (y : mY), mS fm L xs (fun r : (Int32 × mY) => (.int r.1, mk x r.2)) pg_X11_grow 104 [.ref 279, .int a1, .int a2, mU] [] (mk x y) (f_X11_grow_L104 n a2 y k120) := by
  intro n
  induction n with
  | zero => intro a2 y; exact mS_none
  | succ n ih =>
    intro a2 y
    rw [f_X11_grow_L104]
    refine mS_steps (pc' := 106) (ls' := [.ref 279, .int a1, .int a2, mU]) (st' := [.int (4 : Int32), .int a2]) (mem' := (mk x y)) 2 rfl ?_
    refine mS_ic4 rfl (fun _ => ?_) (fun _ => ?_)
    · refine mS_steps (pc' := 164) (ls' := [.ref 279, .int a1, .int a2, mU]) (st' := [.int (-2 : Int32)]) (mem' := (mk x y)) 1 rfl ?_
      exact mS_reti ⟨_, _, _, _, _, rfl, rfl⟩ rfl
    · refine mS_steps (pc' := 111) (ls' := [.ref 279, .int a1, .int a2, mU]) (st' := [.int a2, .ref 279]) (mem' := (mk x y)) 2 rfl ?_
      refine mS_bind (fun q9 hq9 => mS_call 265 2 [.ref 279, .int a2] [] rfl rfl rfl ⟨_, _, _, rfl, rfl⟩ (Nat.le_of_ble_eq_true rfl) (Nat.le_of_ble_eq_true rfl) hq9 (f_X11_areEnough_snd a2 y x) ?_)
      refine mS_steps (pc' := 114) (ls' := [.ref 279, .int a1, .int a2, mU]) (st' := [.int q9.1]) (mem' := (mk x q9.2)) 0 rfl ?_
      refine mS_if1 rfl (fun _ => ?_) (fun _ => ?_)
      · refine mS_steps (pc' := 104) (ls' := [.ref 279, .int a1, .int (a2 + (1 : Int32)), mU]) (st' := []) (mem' := (mk x q9.2)) 3 rfl ?_
        exact ih (a2 + (1 : Int32)) q9.2
      · exact hk120 a2 q9.2
set_option maxRecDepth 20000 in
set_option maxHeartbeats 2000000 in
theorem f_X11_grow_snd {fm : Value} {L : Nat} {xs : Nat → Int32} (p1 : Int32) (y : mY) (x : mX) : mS fm L xs (fun r : (Int32 × mY) => (.int r.1, mk x r.2)) pg_X11_grow 0 (m_entry [.ref 279, .int p1] 4) [] (mk x y) ((f_X11_grow p1 y)) := by
  unfold f_X11_grow
  refine mS_steps (pc' := 0) (ls' := [.ref 279, .int p1, mU, mU]) (st' := []) (mem' := (mk x y)) 0 rfl ?_
  refine mS_steps (pc' := 2) (ls' := [.ref 279, .int p1, mU, mU]) (st' := [.int (0 : Int32), .ref 279]) (mem' := (mk x y)) 2 rfl ?_
  refine mS_bind (fun q1 hq1 => mS_call 143 2 [.ref 279, .int (0 : Int32)] [] rfl rfl rfl ⟨_, _, _, rfl, rfl⟩ (Nat.le_of_ble_eq_true rfl) (Nat.le_of_ble_eq_true rfl) hq1 (f_X11_laysNet_snd (0 : Int32) y x) ?_)
  refine mS_steps (pc' := 8) (ls' := [.ref 279, .int p1, mU, mU]) (st' := [.int (0 : Int32), .ref 279]) (mem' := (mk x q1.2)) 3 rfl ?_
  refine mS_puty rfl rfl (by decide) rfl ?_
  refine mS_lety (fun y2 => ?_)
  refine mS_steps (pc' := 13) (ls' := [.ref 279, .int p1, .int (0 : Int32), mU]) (st' := []) (mem' := (mk x y2)) 2 rfl ?_
  refine f_X11_grow_L13_snd p1 x _ ?_ mF (0 : Int32) y2
  · intro y8
    refine mS_steps (pc' := 104) (ls' := [.ref 279, .int p1, .int (0 : Int32), mU]) (st' := []) (mem' := (mk x y8)) 2 rfl ?_
    refine f_X11_grow_L104_snd p1 x _ ?_ mF (0 : Int32) y8
    · intro v10 y11
      refine mS_steps (pc' := 122) (ls' := [.ref 279, .int p1, .int v10, mU]) (st' := [.int (-1 : Int32), .int p1]) (mem' := (mk x y11)) 2 rfl ?_
      refine mS_ic1 rfl (fun _ => ?_) (fun _ => ?_)
      · refine mS_steps (pc' := 155) (ls' := [.ref 279, .int p1, .int v10, mU]) (st' := [.int v10]) (mem' := (mk x y11)) 2 rfl ?_
        exact mS_reti ⟨_, _, _, _, _, rfl, rfl⟩ rfl
      · refine mS_steps (pc' := 134) (ls' := [.ref 279, .int p1, .int v10, mU]) (st' := [.int (v10 - (1 : Int32)), .int (0 : Int32), .int p1]) (mem' := (mk x y11)) 5 rfl ?_
        refine mS_call (q := (f_X11_in p1 (0 : Int32) (v10 - (1 : Int32)))) 83 3 [.int p1, .int (0 : Int32), .int (v10 - (1 : Int32))] [] rfl rfl rfl ⟨_, _, _, rfl, rfl⟩ (Nat.le_of_ble_eq_true rfl) (Nat.le_of_ble_eq_true rfl) rfl (f_X11_in_snd p1 (0 : Int32) (v10 - (1 : Int32)) (mk x y11)) ?_
        refine mS_steps (pc' := 137) (ls' := [.ref 279, .int p1, .int v10, mU]) (st' := [.int (f_X11_in p1 (0 : Int32) (v10 - (1 : Int32)))]) (mem' := (mk x y11)) 0 rfl ?_
        refine mS_if0 rfl (fun _ => ?_) (fun _ => ?_)
        · refine mS_steps (pc' := 155) (ls' := [.ref 279, .int p1, .int v10, mU]) (st' := [.int (-1 : Int32)]) (mem' := (mk x y11)) 1 rfl ?_
          exact mS_reti ⟨_, _, _, _, _, rfl, rfl⟩ rfl
        · refine mS_steps (pc' := 149) (ls' := [.ref 279, .int p1, .int v10, mU]) (st' := [.int p1, .ref 314, .ref 313]) (mem' := (mk x y11)) 5 rfl ?_
          refine mS_ald (b := 0) (n := 4) (z := (y11.1 314 p1.toNatClampNeg)) rfl (by decide) rfl (by decide) rfl (fun _ => ?_)
          refine mS_ald (b := 0) (n := 28) (z := (y11.1 313 (y11.1 314 p1.toNatClampNeg).toNatClampNeg)) rfl (by decide) rfl (by decide) rfl (fun _ => ?_)
          refine mS_steps (pc' := 155) (ls' := [.ref 279, .int p1, .int v10, mU]) (st' := [.int (y11.1 313 (y11.1 314 p1.toNatClampNeg).toNatClampNeg)]) (mem' := (mk x y11)) 1 rfl ?_
          exact mS_reti ⟨_, _, _, _, _, rfl, rfl⟩ rfl
def f_X10_hold (p1 : Int32) (x : mX) : Option (Int32 × mX) := (if p1 < 0 then (some ((0 : Int32), x)) else (if p1 < (3 : Int32) then (if m_in p1 3 = true then ((mRR x.2.2 221 p1.toNatClampNeg).bind fun q1 => ((f_X6_copy q1 14 x).bind fun q2 => (m_let (m_xs q2 0 4 ((q2.1 0 4) ||| ((1 : Int32) <<< (p1 &&& 31)))) fun x3 => (some ((1 : Int32), x3))))) else none) else (some ((0 : Int32), x))))
set_option maxRecDepth 20000 in
set_option maxHeartbeats 2000000 in
theorem f_X10_hold_snd {fm : Value} {L : Nat} {xs : Nat → Int32} (p1 : Int32) (x : mX) (y : mY) : mS fm L xs (fun r : (Int32 × mX) => (.int r.1, mk r.2 y)) pg_X10_hold 0 (m_entry [.ref 0, .int p1] 2) [] (mk x y) ((f_X10_hold p1 x)) := by
  unfold f_X10_hold
  refine mS_steps (pc' := 0) (ls' := [.ref 0, .int p1]) (st' := []) (mem' := (mk x y)) 0 rfl ?_
  refine mS_steps (pc' := 1) (ls' := [.ref 0, .int p1]) (st' := [.int p1]) (mem' := (mk x y)) 1 rfl ?_
  refine mS_if2 rfl (fun _ => ?_) (fun _ => ?_)
  · refine mS_steps (pc' := 10) (ls' := [.ref 0, .int p1]) (st' := [.int (0 : Int32)]) (mem' := (mk x y)) 1 rfl ?_
    exact mS_reti ⟨_, _, _, _, _, rfl, (by decide)⟩ rfl
  · refine mS_steps (pc' := 6) (ls' := [.ref 0, .int p1]) (st' := [.int (3 : Int32), .int p1]) (mem' := (mk x y)) 2 rfl ?_
    refine mS_ic2 rfl (fun _ => ?_) (fun _ => ?_)
    · refine mS_steps (pc' := 16) (ls' := [.ref 0, .int p1]) (st' := [.int p1, .ref 221]) (mem' := (mk x y)) 3 rfl ?_
      refine mS_aald (n := 3) rfl rfl (by decide) (fun hiq1 => mS_bind (fun q1 hq1 => mS_aald2 rfl rfl (by decide) hiq1 hq1 ?_))
      refine mS_steps (pc' := 21) (ls' := [.ref 0, .int p1]) (st' := [.ref 14, .ref q1]) (mem' := (mk x y)) 2 rfl ?_
      refine mS_bind (fun q2 hq2 => mS_call 64 2 [.ref q1, .ref 14] [] rfl rfl rfl ⟨_, _, _, rfl, (m_rcvV (m_slots hiq1 hq1))⟩ (Nat.le_of_ble_eq_true rfl) (Nat.le_of_ble_eq_true rfl) hq2 (f_X6_copy_snd q1 14 (m_slots hiq1 hq1) (m_stq 14 (by decide)) x y) ?_)
      refine mS_steps (pc' := 33) (ls' := [.ref 0, .int p1]) (st' := [.int ((q2.1 0 4) ||| ((1 : Int32) <<< (p1 &&& 31))), .ref 0]) (mem' := (mk q2 y)) 7 rfl ?_
      refine mS_putx rfl rfl (by decide) rfl ?_
      refine mS_letx (fun x3 => ?_)
      refine mS_steps (pc' := 37) (ls' := [.ref 0, .int p1]) (st' := [.int (1 : Int32)]) (mem' := (mk x3 y)) 1 rfl ?_
      exact mS_reti ⟨_, _, _, _, _, rfl, (by decide)⟩ rfl
    · refine mS_steps (pc' := 10) (ls' := [.ref 0, .int p1]) (st' := [.int (0 : Int32)]) (mem' := (mk x y)) 1 rfl ?_
      exact mS_reti ⟨_, _, _, _, _, rfl, (by decide)⟩ rfl
def f_X11_hold_L13 (a1 : Int32) : Nat → Int32 → mY → Option (Int32 × mY)
  | 0, _, _ => none
  | n + 1, a2, y => (if (72 : Int32) ≤ a2 then (if m_in a1 3 = true then (m_let (m_ys y 292 a1.toNatClampNeg (vp_nar .boolean (1 : Int32))) fun y1 => (some ((1 : Int32), y1))) else none) else (if m_in a2 72 = true then (if m_in (((72 : Int32) * a1) + a2) 216 = true then (m_let (m_ys y 291 (((72 : Int32) * a1) + a2).toNatClampNeg (y.1 289 a2.toNatClampNeg)) fun y2 => (f_X11_hold_L13 a1 n (a2 + (1 : Int32)) y2)) else none) else none))
def f_X11_hold (p1 : Int32) (y : mY) : Option (Int32 × mY) := (if (f_X11_in p1 (0 : Int32) (2 : Int32)) = 0 then (some ((0 : Int32), y)) else (f_X11_hold_L13 p1 mF (0 : Int32) y))
set_option maxRecDepth 20000 in
set_option maxHeartbeats 2000000 in
theorem f_X11_hold_L13_snd {fm : Value} {L : Nat} {xs : Nat → Int32} (a1 : Int32) (x : mX) : ∀ (n : Nat) (a2 : Int32) (y : mY), mS fm L xs (fun r : (Int32 × mY) => (.int r.1, mk x r.2)) pg_X11_hold 13 [.ref 279, .int a1, .int a2] [] (mk x y) (f_X11_hold_L13 a1 n a2 y) := by
  intro n
  induction n with
  | zero => intro a2 y; exact mS_none
  | succ n ih =>
    intro a2 y
    rw [f_X11_hold_L13]
    refine mS_steps (pc' := 16) (ls' := [.ref 279, .int a1, .int a2]) (st' := [.int (72 : Int32), .int a2]) (mem' := (mk x y)) 2 rfl ?_
    refine mS_ic3 rfl (fun _ => ?_) (fun _ => ?_)
    · refine mS_steps (pc' := 48) (ls' := [.ref 279, .int a1, .int a2]) (st' := [.int (1 : Int32), .int a1, .ref 292]) (mem' := (mk x y)) 4 rfl ?_
      refine mS_ast3y (n := 3) rfl rfl (by decide) (fun _ => ?_)
      refine mS_lety (fun y1 => ?_)
      refine mS_steps (pc' := 50) (ls' := [.ref 279, .int a1, .int a2]) (st' := [.int (1 : Int32)]) (mem' := (mk x y1)) 1 rfl ?_
      exact mS_reti ⟨_, _, _, _, _, rfl, (by decide)⟩ rfl
    · refine mS_steps (pc' := 34) (ls' := [.ref 279, .int a1, .int a2]) (st' := [.int a2, .ref 289, .int (((72 : Int32) * a1) + a2), .ref 291]) (mem' := (mk x y)) 10 rfl ?_
      refine mS_ald (b := 0) (n := 72) (z := (y.1 289 a2.toNatClampNeg)) rfl (by decide) rfl (by decide) rfl (fun _ => ?_)
      refine mS_ast0y (n := 216) rfl rfl (by decide) (fun _ => ?_)
      refine mS_lety (fun y2 => ?_)
      refine mS_steps (pc' := 13) (ls' := [.ref 279, .int a1, .int (a2 + (1 : Int32))]) (st' := []) (mem' := (mk x y2)) 2 rfl ?_
      exact ih (a2 + (1 : Int32)) y2
set_option maxRecDepth 20000 in
set_option maxHeartbeats 2000000 in
theorem f_X11_hold_snd {fm : Value} {L : Nat} {xs : Nat → Int32} (p1 : Int32) (y : mY) (x : mX) : mS fm L xs (fun r : (Int32 × mY) => (.int r.1, mk x r.2)) pg_X11_hold 0 (m_entry [.ref 279, .int p1] 3) [] (mk x y) ((f_X11_hold p1 y)) := by
  unfold f_X11_hold
  refine mS_steps (pc' := 0) (ls' := [.ref 279, .int p1, mU]) (st' := []) (mem' := (mk x y)) 0 rfl ?_
  refine mS_steps (pc' := 3) (ls' := [.ref 279, .int p1, mU]) (st' := [.int (2 : Int32), .int (0 : Int32), .int p1]) (mem' := (mk x y)) 3 rfl ?_
  refine mS_call (q := (f_X11_in p1 (0 : Int32) (2 : Int32))) 83 3 [.int p1, .int (0 : Int32), .int (2 : Int32)] [] rfl rfl rfl ⟨_, _, _, rfl, rfl⟩ (Nat.le_of_ble_eq_true rfl) (Nat.le_of_ble_eq_true rfl) rfl (f_X11_in_snd p1 (0 : Int32) (2 : Int32) (mk x y)) ?_
  refine mS_steps (pc' := 6) (ls' := [.ref 279, .int p1, mU]) (st' := [.int (f_X11_in p1 (0 : Int32) (2 : Int32))]) (mem' := (mk x y)) 0 rfl ?_
  refine mS_if1 rfl (fun _ => ?_) (fun _ => ?_)
  · refine mS_steps (pc' := 10) (ls' := [.ref 279, .int p1, mU]) (st' := [.int (0 : Int32)]) (mem' := (mk x y)) 1 rfl ?_
    exact mS_reti ⟨_, _, _, _, _, rfl, (by decide)⟩ rfl
  · refine mS_steps (pc' := 13) (ls' := [.ref 279, .int p1, .int (0 : Int32)]) (st' := []) (mem' := (mk x y)) 2 rfl ?_
    refine f_X11_hold_L13_snd p1 x mF (0 : Int32) y
def f_X10_restore (p1 : Int32) (x : mX) : Option (Int32 × mX) := (if p1 < 0 then (some ((0 : Int32), x)) else (if (3 : Int32) ≤ p1 then (some ((0 : Int32), x)) else (if (f_X10_has (x.1 0 4) p1) = 0 then (some ((0 : Int32), x)) else (if m_in p1 3 = true then ((mRR x.2.2 221 p1.toNatClampNeg).bind fun q1 => ((f_X6_copy 14 q1 x).bind fun q2 => (m_let (f_X2_forget q2) fun x3 => (m_let (f_X10_allChanged x3) fun x4 => (some ((1 : Int32), x4)))))) else none))))
set_option maxRecDepth 20000 in
set_option maxHeartbeats 2000000 in
theorem f_X10_restore_snd {fm : Value} {L : Nat} {xs : Nat → Int32} (p1 : Int32) (x : mX) (y : mY) : mS fm L xs (fun r : (Int32 × mX) => (.int r.1, mk r.2 y)) pg_X10_restore 0 (m_entry [.ref 0, .int p1] 2) [] (mk x y) ((f_X10_restore p1 x)) := by
  unfold f_X10_restore
  refine mS_steps (pc' := 0) (ls' := [.ref 0, .int p1]) (st' := []) (mem' := (mk x y)) 0 rfl ?_
  refine mS_steps (pc' := 1) (ls' := [.ref 0, .int p1]) (st' := [.int p1]) (mem' := (mk x y)) 1 rfl ?_
  refine mS_if2 rfl (fun _ => ?_) (fun _ => ?_)
  · refine mS_steps (pc' := 21) (ls' := [.ref 0, .int p1]) (st' := [.int (0 : Int32)]) (mem' := (mk x y)) 1 rfl ?_
    exact mS_reti ⟨_, _, _, _, _, rfl, (by decide)⟩ rfl
  · refine mS_steps (pc' := 6) (ls' := [.ref 0, .int p1]) (st' := [.int (3 : Int32), .int p1]) (mem' := (mk x y)) 2 rfl ?_
    refine mS_ic3 rfl (fun _ => ?_) (fun _ => ?_)
    · refine mS_steps (pc' := 21) (ls' := [.ref 0, .int p1]) (st' := [.int (0 : Int32)]) (mem' := (mk x y)) 1 rfl ?_
      exact mS_reti ⟨_, _, _, _, _, rfl, (by decide)⟩ rfl
    · refine mS_steps (pc' := 14) (ls' := [.ref 0, .int p1]) (st' := [.int p1, .int (x.1 0 4)]) (mem' := (mk x y)) 3 rfl ?_
      refine mS_call (q := (f_X10_has (x.1 0 4) p1)) 57 2 [.int (x.1 0 4), .int p1] [] rfl rfl rfl ⟨_, _, _, rfl, rfl⟩ (Nat.le_of_ble_eq_true rfl) (Nat.le_of_ble_eq_true rfl) rfl (f_X10_has_snd (x.1 0 4) p1 (mk x y)) ?_
      refine mS_steps (pc' := 17) (ls' := [.ref 0, .int p1]) (st' := [.int (f_X10_has (x.1 0 4) p1)]) (mem' := (mk x y)) 0 rfl ?_
      refine mS_if1 rfl (fun _ => ?_) (fun _ => ?_)
      · refine mS_steps (pc' := 21) (ls' := [.ref 0, .int p1]) (st' := [.int (0 : Int32)]) (mem' := (mk x y)) 1 rfl ?_
        exact mS_reti ⟨_, _, _, _, _, rfl, (by decide)⟩ rfl
      · refine mS_steps (pc' := 31) (ls' := [.ref 0, .int p1]) (st' := [.int p1, .ref 221, .ref 14]) (mem' := (mk x y)) 5 rfl ?_
        refine mS_aald (n := 3) rfl rfl (by decide) (fun hiq1 => mS_bind (fun q1 hq1 => mS_aald2 rfl rfl (by decide) hiq1 hq1 ?_))
        refine mS_bind (fun q2 hq2 => mS_call 64 2 [.ref 14, .ref q1] [] rfl rfl rfl ⟨_, _, _, rfl, rfl⟩ (Nat.le_of_ble_eq_true rfl) (Nat.le_of_ble_eq_true rfl) hq2 (f_X6_copy_snd 14 q1 (m_stq 14 (by decide)) (m_slots hiq1 hq1) x y) ?_)
        refine mS_steps (pc' := 39) (ls' := [.ref 0, .int p1]) (st' := [.ref 19]) (mem' := (mk q2 y)) 2 rfl ?_
        refine mS_call (q := (f_X2_forget q2)) 65 1 [.ref 19] [] rfl rfl rfl ⟨_, _, _, rfl, rfl⟩ (Nat.le_of_ble_eq_true rfl) (Nat.le_of_ble_eq_true rfl) rfl (f_X2_forget_snd  q2 y) ?_
        refine mS_letx (fun x3 => ?_)
        refine mS_steps (pc' := 43) (ls' := [.ref 0, .int p1]) (st' := [.ref 0]) (mem' := (mk x3 y)) 1 rfl ?_
        refine mS_call (q := (f_X10_allChanged x3)) 66 1 [.ref 0] [] rfl rfl rfl ⟨_, _, _, rfl, rfl⟩ (Nat.le_of_ble_eq_true rfl) (Nat.le_of_ble_eq_true rfl) rfl (f_X10_allChanged_snd  x3 y) ?_
        refine mS_letx (fun x4 => ?_)
        refine mS_steps (pc' := 47) (ls' := [.ref 0, .int p1]) (st' := [.int (1 : Int32)]) (mem' := (mk x4 y)) 1 rfl ?_
        exact mS_reti ⟨_, _, _, _, _, rfl, (by decide)⟩ rfl
def f_X11_restore_L22 (a1 : Int32) : Nat → Int32 → mY → (mY → Option (Int32 × mY)) → Option (Int32 × mY)
  | 0, _, _, _ => none
  | n + 1, a2, y, k51 => (if (72 : Int32) ≤ a2 then (k51 y) else (if m_in (((72 : Int32) * a1) + a2) 216 = true then (if m_in a2 72 = true then (m_let (m_ys y 289 a2.toNatClampNeg (y.1 291 (((72 : Int32) * a1) + a2).toNatClampNeg)) fun y1 => (f_X11_restore_L22 a1 n (a2 + (1 : Int32)) y1 k51)) else none) else none))
def f_X11_restore (p1 : Int32) (y : mY) : Option (Int32 × mY) := (if (f_X11_in p1 (0 : Int32) (2 : Int32)) = 0 then (some ((0 : Int32), y)) else (if m_in p1 3 = true then (if (y.1 292 p1.toNatClampNeg) = 0 then (some ((0 : Int32), y)) else (f_X11_restore_L22 p1 mF (0 : Int32) y (fun y2 => (m_let (m_ys y2 279 27 (0 : Int32)) fun y3 => (m_let (m_ys y3 279 30 (0 : Int32)) fun y4 => (some ((1 : Int32), y4))))))) else none))
set_option maxRecDepth 20000 in
set_option maxHeartbeats 2000000 in
theorem f_X11_restore_L22_snd {fm : Value} {L : Nat} {xs : Nat → Int32} (a1 : Int32) (x : mX) (k51 : mY → Option (Int32 × mY)) (hk51 : ∀ (z0 : mY), mS fm L xs (fun r : (Int32 × mY) => (.int r.1, mk x r.2)) pg_X11_restore 51 [.ref 279, mU, mU] [] (mk x z0) (k51 z0)) : ∀ (n : Nat) (a2 : Int32) (y : mY), mS fm L xs (fun r : (Int32 × mY) => (.int r.1, mk x r.2)) pg_X11_restore 22 [.ref 279, .int a1, .int a2] [] (mk x y) (f_X11_restore_L22 a1 n a2 y k51) := by
  intro n
  induction n with
  | zero => intro a2 y; exact mS_none
  | succ n ih =>
    intro a2 y
    rw [f_X11_restore_L22]
    refine mS_steps (pc' := 25) (ls' := [.ref 279, .int a1, .int a2]) (st' := [.int (72 : Int32), .int a2]) (mem' := (mk x y)) 2 rfl ?_
    refine mS_ic3 rfl (fun _ => ?_) (fun _ => ?_)
    · refine mS_forget [.ref 279, mU, mU] ⟨Or.inr rfl, Or.inl rfl, Or.inl rfl, trivial⟩ ?_
      exact hk51 y
    · refine mS_steps (pc' := 43) (ls' := [.ref 279, .int a1, .int a2]) (st' := [.int (((72 : Int32) * a1) + a2), .ref 291, .int a2, .ref 289]) (mem' := (mk x y)) 10 rfl ?_
      refine mS_ald (b := 0) (n := 216) (z := (y.1 291 (((72 : Int32) * a1) + a2).toNatClampNeg)) rfl (by decide) rfl (by decide) rfl (fun _ => ?_)
      refine mS_ast0y (n := 72) rfl rfl (by decide) (fun _ => ?_)
      refine mS_lety (fun y1 => ?_)
      refine mS_steps (pc' := 22) (ls' := [.ref 279, .int a1, .int (a2 + (1 : Int32))]) (st' := []) (mem' := (mk x y1)) 2 rfl ?_
      exact ih (a2 + (1 : Int32)) y1
set_option maxRecDepth 20000 in
set_option maxHeartbeats 2000000 in
theorem f_X11_restore_snd {fm : Value} {L : Nat} {xs : Nat → Int32} (p1 : Int32) (y : mY) (x : mX) : mS fm L xs (fun r : (Int32 × mY) => (.int r.1, mk x r.2)) pg_X11_restore 0 (m_entry [.ref 279, .int p1] 3) [] (mk x y) ((f_X11_restore p1 y)) := by
  unfold f_X11_restore
  refine mS_steps (pc' := 0) (ls' := [.ref 279, .int p1, mU]) (st' := []) (mem' := (mk x y)) 0 rfl ?_
  refine mS_steps (pc' := 3) (ls' := [.ref 279, .int p1, mU]) (st' := [.int (2 : Int32), .int (0 : Int32), .int p1]) (mem' := (mk x y)) 3 rfl ?_
  refine mS_call (q := (f_X11_in p1 (0 : Int32) (2 : Int32))) 83 3 [.int p1, .int (0 : Int32), .int (2 : Int32)] [] rfl rfl rfl ⟨_, _, _, rfl, rfl⟩ (Nat.le_of_ble_eq_true rfl) (Nat.le_of_ble_eq_true rfl) rfl (f_X11_in_snd p1 (0 : Int32) (2 : Int32) (mk x y)) ?_
  refine mS_steps (pc' := 6) (ls' := [.ref 279, .int p1, mU]) (st' := [.int (f_X11_in p1 (0 : Int32) (2 : Int32))]) (mem' := (mk x y)) 0 rfl ?_
  refine mS_if0 rfl (fun _ => ?_) (fun _ => ?_)
  · refine mS_steps (pc' := 19) (ls' := [.ref 279, .int p1, mU]) (st' := [.int (0 : Int32)]) (mem' := (mk x y)) 1 rfl ?_
    exact mS_reti ⟨_, _, _, _, _, rfl, (by decide)⟩ rfl
  · refine mS_steps (pc' := 14) (ls' := [.ref 279, .int p1, mU]) (st' := [.int p1, .ref 292]) (mem' := (mk x y)) 3 rfl ?_
    refine mS_ald (b := 3) (n := 3) (z := (y.1 292 p1.toNatClampNeg)) rfl (by decide) rfl (by decide) rfl (fun _ => ?_)
    refine mS_if1 rfl (fun _ => ?_) (fun _ => ?_)
    · refine mS_steps (pc' := 19) (ls' := [.ref 279, .int p1, mU]) (st' := [.int (0 : Int32)]) (mem' := (mk x y)) 1 rfl ?_
      exact mS_reti ⟨_, _, _, _, _, rfl, (by decide)⟩ rfl
    · refine mS_steps (pc' := 22) (ls' := [.ref 279, .int p1, .int (0 : Int32)]) (st' := []) (mem' := (mk x y)) 2 rfl ?_
      refine f_X11_restore_L22_snd p1 x _ ?_ mF (0 : Int32) y
      · intro y2
        refine mS_steps (pc' := 53) (ls' := [.ref 279, mU, mU]) (st' := [.int (0 : Int32), .ref 279]) (mem' := (mk x y2)) 2 rfl ?_
        refine mS_puty rfl rfl (by decide) rfl ?_
        refine mS_lety (fun y3 => ?_)
        refine mS_steps (pc' := 58) (ls' := [.ref 279, mU, mU]) (st' := [.int (0 : Int32), .ref 279]) (mem' := (mk x y3)) 2 rfl ?_
        refine mS_putcy rfl rfl (by decide) rfl (by decide) ?_
        refine mS_lety (fun y4 => ?_)
        refine mS_steps (pc' := 62) (ls' := [.ref 279, mU, mU]) (st' := [.int (1 : Int32)]) (mem' := (mk x y4)) 1 rfl ?_
        exact mS_reti ⟨_, _, _, _, _, rfl, (by decide)⟩ rfl
def f_X3_isTied_L15 : Nat → Int32 → mX → Option Int32
  | 0, _, _ => none
  | n + 1, a1, x => (if (8 : Int32) ≤ a1 then (some (1 : Int32)) else (if (f_X10_has (x.1 222 0) a1) = 0 then (f_X3_isTied_L15 n (a1 + (1 : Int32)) x) else (if m_in a1 8 = true then (if (x.1 227 a1.toNatClampNeg) = (x.1 222 0) then (f_X3_isTied_L15 n (a1 + (1 : Int32)) x) else (some (0 : Int32))) else none)))
def f_X3_isTied (x : mX) : Option Int32 := ((f_J6_bitCount_0f7a4 (x.1 222 0)).bind fun q1 => (if (2 : Int32) ≤ q1 then (f_X3_isTied_L15 mF (0 : Int32) x) else (some (1 : Int32))))
set_option maxRecDepth 20000 in
set_option maxHeartbeats 2000000 in
theorem f_X3_isTied_L15_snd {fm : Value} {L : Nat} {xs : Nat → Int32} (x : mX) (y : mY) : ∀ (n : Nat) (a1 : Int32), mS fm L xs (fun r : Int32 => (.int r, (mk x y))) pg_X3_isTied 15 [.ref 222, .int a1] [] (mk x y) (f_X3_isTied_L15 n a1 x) := by
  intro n
  induction n with
  | zero => intro a1; exact mS_none
  | succ n ih =>
    intro a1
    rw [f_X3_isTied_L15]
    refine mS_steps (pc' := 18) (ls' := [.ref 222, .int a1]) (st' := [.int (8 : Int32), .int a1]) (mem' := (mk x y)) 2 rfl ?_
    refine mS_ic3 rfl (fun _ => ?_) (fun _ => ?_)
    · refine mS_steps (pc' := 54) (ls' := [.ref 222, .int a1]) (st' := [.int (1 : Int32)]) (mem' := (mk x y)) 1 rfl ?_
      exact mS_reti ⟨_, _, _, _, _, rfl, (by decide)⟩ rfl
    · refine mS_steps (pc' := 26) (ls' := [.ref 222, .int a1]) (st' := [.int a1, .int (x.1 222 0)]) (mem' := (mk x y)) 3 rfl ?_
      refine mS_call (q := (f_X10_has (x.1 222 0) a1)) 57 2 [.int (x.1 222 0), .int a1] [] rfl rfl rfl ⟨_, _, _, rfl, rfl⟩ (Nat.le_of_ble_eq_true rfl) (Nat.le_of_ble_eq_true rfl) rfl (f_X10_has_snd (x.1 222 0) a1 (mk x y)) ?_
      refine mS_steps (pc' := 29) (ls' := [.ref 222, .int a1]) (st' := [.int (f_X10_has (x.1 222 0) a1)]) (mem' := (mk x y)) 0 rfl ?_
      refine mS_if0 rfl (fun _ => ?_) (fun _ => ?_)
      · refine mS_steps (pc' := 15) (ls' := [.ref 222, .int (a1 + (1 : Int32))]) (st' := []) (mem' := (mk x y)) 2 rfl ?_
        exact ih (a1 + (1 : Int32))
      · refine mS_steps (pc' := 37) (ls' := [.ref 222, .int a1]) (st' := [.int a1, .ref 227]) (mem' := (mk x y)) 3 rfl ?_
        refine mS_ald (b := 0) (n := 8) (z := (x.1 227 a1.toNatClampNeg)) rfl (by decide) rfl (by decide) rfl (fun _ => ?_)
        refine mS_steps (pc' := 42) (ls' := [.ref 222, .int a1]) (st' := [.int (x.1 222 0), .int (x.1 227 a1.toNatClampNeg)]) (mem' := (mk x y)) 2 rfl ?_
        refine mS_ic0 rfl (fun _ => ?_) (fun _ => ?_)
        · refine mS_steps (pc' := 15) (ls' := [.ref 222, .int (a1 + (1 : Int32))]) (st' := []) (mem' := (mk x y)) 2 rfl ?_
          exact ih (a1 + (1 : Int32))
        · refine mS_steps (pc' := 46) (ls' := [.ref 222, .int a1]) (st' := [.int (0 : Int32)]) (mem' := (mk x y)) 1 rfl ?_
          exact mS_reti ⟨_, _, _, _, _, rfl, (by decide)⟩ rfl
set_option maxRecDepth 20000 in
set_option maxHeartbeats 2000000 in
theorem f_X3_isTied_snd {fm : Value} {L : Nat} {xs : Nat → Int32} (x : mX) (y : mY) : mS fm L xs (fun r : Int32 => (.int r, (mk x y))) pg_X3_isTied 0 (m_entry [.ref 222] 2) [] (mk x y) ((f_X3_isTied x)) := by
  unfold f_X3_isTied
  refine mS_steps (pc' := 0) (ls' := [.ref 222, mU]) (st' := []) (mem' := (mk x y)) 0 rfl ?_
  refine mS_steps (pc' := 4) (ls' := [.ref 222, mU]) (st' := [.int (x.1 222 0)]) (mem' := (mk x y)) 2 rfl ?_
  refine mS_bind (fun q1 hq1 => mS_call 254 1 [.int (x.1 222 0)] [] rfl rfl rfl ⟨_, _, _, rfl, rfl⟩ (Nat.le_of_ble_eq_true rfl) (Nat.le_of_ble_eq_true rfl) hq1 (f_J6_bitCount_0f7a4_snd (x.1 222 0) (mk x y)) ?_)
  refine mS_steps (pc' := 8) (ls' := [.ref 222, mU]) (st' := [.int (2 : Int32), .int q1]) (mem' := (mk x y)) 1 rfl ?_
  refine mS_ic3 rfl (fun _ => ?_) (fun _ => ?_)
  · refine mS_steps (pc' := 15) (ls' := [.ref 222, .int (0 : Int32)]) (st' := []) (mem' := (mk x y)) 2 rfl ?_
    refine f_X3_isTied_L15_snd x y mF (0 : Int32)
  · refine mS_steps (pc' := 12) (ls' := [.ref 222, mU]) (st' := [.int (1 : Int32)]) (mem' := (mk x y)) 1 rfl ?_
    exact mS_reti ⟨_, _, _, _, _, rfl, (by decide)⟩ rfl
def f_X10_clearPosts_L4 : Nat → Int32 → Int32 → mX → Option (Int32 × mX)
  | 0, _, _, _ => none
  | n + 1, a1, a2, x => (if (8 : Int32) ≤ a2 then (some (a1, x)) else ((f_X10_hasWay (x.1 14 4) a2 x).bind fun q1 => (if q1.1 = 0 then (f_X10_clearPosts_L4 n a1 (a2 + (1 : Int32)) q1.2) else ((f_X7_shared (q1.2.1 14 4) a2 q1.2).bind fun q2 => (if q2 = 0 then (f_X10_clearPosts_L4 n (a1 ||| ((1 : Int32) <<< (a2 &&& 31))) (a2 + (1 : Int32)) q1.2) else (f_X10_clearPosts_L4 n a1 (a2 + (1 : Int32)) q1.2))))))
def f_X10_clearPosts (x : mX) : Option (Int32 × mX) := (f_X10_clearPosts_L4 mF (0 : Int32) (0 : Int32) x)
set_option maxRecDepth 20000 in
set_option maxHeartbeats 2000000 in
theorem f_X10_clearPosts_L4_snd {fm : Value} {L : Nat} {xs : Nat → Int32} (y : mY) : ∀ (n : Nat) (a1 : Int32) (a2 : Int32) (x : mX), mS fm L xs (fun r : (Int32 × mX) => (.int r.1, mk r.2 y)) pg_X10_clearPosts 4 [.ref 0, .int a1, .int a2] [] (mk x y) (f_X10_clearPosts_L4 n a1 a2 x) := by
  intro n
  induction n with
  | zero => intro a1 a2 x; exact mS_none
  | succ n ih =>
    intro a1 a2 x
    rw [f_X10_clearPosts_L4]
    refine mS_steps (pc' := 7) (ls' := [.ref 0, .int a1, .int a2]) (st' := [.int (8 : Int32), .int a2]) (mem' := (mk x y)) 2 rfl ?_
    refine mS_ic3 rfl (fun _ => ?_) (fun _ => ?_)
    · refine mS_steps (pc' := 56) (ls' := [.ref 0, .int a1, .int a2]) (st' := [.int a1]) (mem' := (mk x y)) 1 rfl ?_
      exact mS_reti ⟨_, _, _, _, _, rfl, rfl⟩ rfl
    · refine mS_steps (pc' := 19) (ls' := [.ref 0, .int a1, .int a2]) (st' := [.int a2, .int (x.1 14 4), .ref 0]) (mem' := (mk x y)) 5 rfl ?_
      refine mS_bind (fun q1 hq1 => mS_call 186 3 [.ref 0, .int (x.1 14 4), .int a2] [] rfl rfl rfl ⟨_, _, _, rfl, rfl⟩ (Nat.le_of_ble_eq_true rfl) (Nat.le_of_ble_eq_true rfl) hq1 (f_X10_hasWay_snd (x.1 14 4) a2 x y) ?_)
      refine mS_steps (pc' := 22) (ls' := [.ref 0, .int a1, .int a2]) (st' := [.int q1.1]) (mem' := (mk q1.2 y)) 0 rfl ?_
      refine mS_if0 rfl (fun _ => ?_) (fun _ => ?_)
      · refine mS_steps (pc' := 4) (ls' := [.ref 0, .int a1, .int (a2 + (1 : Int32))]) (st' := []) (mem' := (mk q1.2 y)) 2 rfl ?_
        exact ih a1 (a2 + (1 : Int32)) q1.2
      · refine mS_steps (pc' := 37) (ls' := [.ref 0, .int a1, .int a2]) (st' := [.int a2, .int (q1.2.1 14 4), .ref 234]) (mem' := (mk q1.2 y)) 6 rfl ?_
        refine mS_bind (fun q2 hq2 => mS_call 202 3 [.ref 234, .int (q1.2.1 14 4), .int a2] [] rfl rfl rfl ⟨_, _, _, rfl, rfl⟩ (Nat.le_of_ble_eq_true rfl) (Nat.le_of_ble_eq_true rfl) hq2 (f_X7_shared_snd (q1.2.1 14 4) a2 q1.2 y) ?_)
        refine mS_steps (pc' := 40) (ls' := [.ref 0, .int a1, .int a2]) (st' := [.int q2]) (mem' := (mk q1.2 y)) 0 rfl ?_
        refine mS_if1 rfl (fun _ => ?_) (fun _ => ?_)
        · refine mS_steps (pc' := 4) (ls' := [.ref 0, .int (a1 ||| ((1 : Int32) <<< (a2 &&& 31))), .int (a2 + (1 : Int32))]) (st' := []) (mem' := (mk q1.2 y)) 8 rfl ?_
          exact ih (a1 ||| ((1 : Int32) <<< (a2 &&& 31))) (a2 + (1 : Int32)) q1.2
        · refine mS_steps (pc' := 4) (ls' := [.ref 0, .int a1, .int (a2 + (1 : Int32))]) (st' := []) (mem' := (mk q1.2 y)) 2 rfl ?_
          exact ih a1 (a2 + (1 : Int32)) q1.2
set_option maxRecDepth 20000 in
set_option maxHeartbeats 2000000 in
theorem f_X10_clearPosts_snd {fm : Value} {L : Nat} {xs : Nat → Int32} (x : mX) (y : mY) : mS fm L xs (fun r : (Int32 × mX) => (.int r.1, mk r.2 y)) pg_X10_clearPosts 0 (m_entry [.ref 0] 3) [] (mk x y) ((f_X10_clearPosts x)) := by
  unfold f_X10_clearPosts
  refine mS_steps (pc' := 0) (ls' := [.ref 0, mU, mU]) (st' := []) (mem' := (mk x y)) 0 rfl ?_
  refine mS_steps (pc' := 4) (ls' := [.ref 0, .int (0 : Int32), .int (0 : Int32)]) (st' := []) (mem' := (mk x y)) 4 rfl ?_
  refine f_X10_clearPosts_L4_snd y mF (0 : Int32) (0 : Int32) x
def f_X10_count (p1 : Int32) (x : mX) : Option (Int32 × mX) := (if p1 = (0 : Int32) then (some ((x.1 14 0), x)) else (if p1 = (1 : Int32) then (some ((x.1 14 1), x)) else (if p1 = (2 : Int32) then (some ((x.1 14 2), x)) else (if p1 = (3 : Int32) then ((f_X6_live 14 x).bind fun q4 => (some (q4, x))) else (if p1 = (4 : Int32) then (some ((x.1 14 6), x)) else (if p1 = (5 : Int32) then (some ((x.1 14 5), x)) else (if p1 = (6 : Int32) then (if (x.1 14 0) = 0 then (some ((-2 : Int32), x)) else (some ((x.1 14 4), x))) else (if p1 = (7 : Int32) then (some ((x.1 14 7), x)) else (if p1 = (8 : Int32) then (some ((x.1 1 0), x)) else (if p1 = (9 : Int32) then (some ((x.1 19 0), x)) else (if p1 = (10 : Int32) then ((f_J6_bitCount_0f7a4 (x.1 0 4)).bind fun q12 => (some (q12, x))) else (if p1 = (11 : Int32) then (some ((x.1 14 8), x)) else (if p1 = (12 : Int32) then ((f_X10_presentNet x).bind fun q15 => (if q15.1 = 222 then ((f_X3_isTied q15.2).bind fun q16 => (if q16 = 0 then (some ((0 : Int32), q15.2)) else (some ((1 : Int32), q15.2)))) else none)) else (if p1 = (13 : Int32) then ((f_X10_fillLoads x).bind fun q18 => (some (q18.1, q18.2))) else (if p1 = (14 : Int32) then ((f_X10_clearPosts x).bind fun q20 => (some (q20.1, q20.2))) else (if p1 = (15 : Int32) then (some ((x.1 14 9), x)) else (some ((-1 : Int32), x))))))))))))))))))
set_option maxRecDepth 20000 in
set_option maxHeartbeats 2000000 in
theorem f_X10_count_snd {fm : Value} {L : Nat} {xs : Nat → Int32} (p1 : Int32) (x : mX) (y : mY) : mS fm L xs (fun r : (Int32 × mX) => (.int r.1, mk r.2 y)) pg_X10_count 0 (m_entry [.ref 0, .int p1] 2) [] (mk x y) ((f_X10_count p1 x)) := by
  unfold f_X10_count
  refine mS_steps (pc' := 0) (ls' := [.ref 0, .int p1]) (st' := []) (mem' := (mk x y)) 0 rfl ?_
  refine mS_steps (pc' := 1) (ls' := [.ref 0, .int p1]) (st' := [.int p1]) (mem' := (mk x y)) 1 rfl ?_
  refine mS_ite (fun hc => ?_) (fun hn1 => ?_)
  · refine mS_tsw (i := 0) (t := 80) rfl (by rw [hc]; decide) rfl ?_
    refine mS_steps (pc' := 87) (ls' := [.ref 0, .int p1]) (st' := [.int (x.1 14 0)]) (mem' := (mk x y)) 3 rfl ?_
    exact mS_reti ⟨_, _, _, _, _, rfl, rfl⟩ rfl
  refine mS_ite (fun hc => ?_) (fun hn2 => ?_)
  · refine mS_tsw (i := 1) (t := 88) rfl (by rw [hc]; decide) rfl ?_
    refine mS_steps (pc' := 95) (ls' := [.ref 0, .int p1]) (st' := [.int (x.1 14 1)]) (mem' := (mk x y)) 3 rfl ?_
    exact mS_reti ⟨_, _, _, _, _, rfl, rfl⟩ rfl
  refine mS_ite (fun hc => ?_) (fun hn3 => ?_)
  · refine mS_tsw (i := 2) (t := 96) rfl (by rw [hc]; decide) rfl ?_
    refine mS_steps (pc' := 103) (ls' := [.ref 0, .int p1]) (st' := [.int (x.1 14 2)]) (mem' := (mk x y)) 3 rfl ?_
    exact mS_reti ⟨_, _, _, _, _, rfl, rfl⟩ rfl
  refine mS_ite (fun hc => ?_) (fun hn5 => ?_)
  · refine mS_tsw (i := 3) (t := 104) rfl (by rw [hc]; decide) rfl ?_
    refine mS_steps (pc' := 108) (ls' := [.ref 0, .int p1]) (st' := [.ref 14]) (mem' := (mk x y)) 2 rfl ?_
    refine mS_bind (fun q4 hq4 => mS_call 61 1 [.ref 14] [] rfl rfl rfl ⟨_, _, _, rfl, rfl⟩ (Nat.le_of_ble_eq_true rfl) (Nat.le_of_ble_eq_true rfl) hq4 (f_X6_live_14_snd  x y) ?_)
    refine mS_steps (pc' := 111) (ls' := [.ref 0, .int p1]) (st' := [.int q4]) (mem' := (mk x y)) 0 rfl ?_
    exact mS_reti ⟨_, _, _, _, _, rfl, rfl⟩ rfl
  refine mS_ite (fun hc => ?_) (fun hn6 => ?_)
  · refine mS_tsw (i := 4) (t := 112) rfl (by rw [hc]; decide) rfl ?_
    refine mS_steps (pc' := 119) (ls' := [.ref 0, .int p1]) (st' := [.int (x.1 14 6)]) (mem' := (mk x y)) 3 rfl ?_
    exact mS_reti ⟨_, _, _, _, _, rfl, rfl⟩ rfl
  refine mS_ite (fun hc => ?_) (fun hn7 => ?_)
  · refine mS_tsw (i := 5) (t := 120) rfl (by rw [hc]; decide) rfl ?_
    refine mS_steps (pc' := 127) (ls' := [.ref 0, .int p1]) (st' := [.int (x.1 14 5)]) (mem' := (mk x y)) 3 rfl ?_
    exact mS_reti ⟨_, _, _, _, _, rfl, rfl⟩ rfl
  refine mS_ite (fun hc => ?_) (fun hn8 => ?_)
  · refine mS_tsw (i := 6) (t := 128) rfl (by rw [hc]; decide) rfl ?_
    refine mS_steps (pc' := 135) (ls' := [.ref 0, .int p1]) (st' := [.int (x.1 14 0)]) (mem' := (mk x y)) 3 rfl ?_
    refine mS_if1 rfl (fun _ => ?_) (fun _ => ?_)
    · refine mS_steps (pc' := 150) (ls' := [.ref 0, .int p1]) (st' := [.int (-2 : Int32)]) (mem' := (mk x y)) 2 rfl ?_
      exact mS_reti ⟨_, _, _, _, _, rfl, rfl⟩ rfl
    · refine mS_steps (pc' := 150) (ls' := [.ref 0, .int p1]) (st' := [.int (x.1 14 4)]) (mem' := (mk x y)) 3 rfl ?_
      exact mS_reti ⟨_, _, _, _, _, rfl, rfl⟩ rfl
  refine mS_ite (fun hc => ?_) (fun hn9 => ?_)
  · refine mS_tsw (i := 7) (t := 151) rfl (by rw [hc]; decide) rfl ?_
    refine mS_steps (pc' := 158) (ls' := [.ref 0, .int p1]) (st' := [.int (x.1 14 7)]) (mem' := (mk x y)) 3 rfl ?_
    exact mS_reti ⟨_, _, _, _, _, rfl, rfl⟩ rfl
  refine mS_ite (fun hc => ?_) (fun hn10 => ?_)
  · refine mS_tsw (i := 8) (t := 159) rfl (by rw [hc]; decide) rfl ?_
    refine mS_steps (pc' := 166) (ls' := [.ref 0, .int p1]) (st' := [.int (x.1 1 0)]) (mem' := (mk x y)) 3 rfl ?_
    exact mS_reti ⟨_, _, _, _, _, rfl, rfl⟩ rfl
  refine mS_ite (fun hc => ?_) (fun hn11 => ?_)
  · refine mS_tsw (i := 9) (t := 167) rfl (by rw [hc]; decide) rfl ?_
    refine mS_steps (pc' := 174) (ls' := [.ref 0, .int p1]) (st' := [.int (x.1 19 0)]) (mem' := (mk x y)) 3 rfl ?_
    exact mS_reti ⟨_, _, _, _, _, rfl, rfl⟩ rfl
  refine mS_ite (fun hc => ?_) (fun hn13 => ?_)
  · refine mS_tsw (i := 10) (t := 175) rfl (by rw [hc]; decide) rfl ?_
    refine mS_steps (pc' := 179) (ls' := [.ref 0, .int p1]) (st' := [.int (x.1 0 4)]) (mem' := (mk x y)) 2 rfl ?_
    refine mS_bind (fun q12 hq12 => mS_call 254 1 [.int (x.1 0 4)] [] rfl rfl rfl ⟨_, _, _, rfl, rfl⟩ (Nat.le_of_ble_eq_true rfl) (Nat.le_of_ble_eq_true rfl) hq12 (f_J6_bitCount_0f7a4_snd (x.1 0 4) (mk x y)) ?_)
    refine mS_steps (pc' := 182) (ls' := [.ref 0, .int p1]) (st' := [.int q12]) (mem' := (mk x y)) 0 rfl ?_
    exact mS_reti ⟨_, _, _, _, _, rfl, rfl⟩ rfl
  refine mS_ite (fun hc => ?_) (fun hn14 => ?_)
  · refine mS_tsw (i := 11) (t := 183) rfl (by rw [hc]; decide) rfl ?_
    refine mS_steps (pc' := 190) (ls' := [.ref 0, .int p1]) (st' := [.int (x.1 14 8)]) (mem' := (mk x y)) 3 rfl ?_
    exact mS_reti ⟨_, _, _, _, _, rfl, rfl⟩ rfl
  refine mS_ite (fun hc => ?_) (fun hn17 => ?_)
  · refine mS_tsw (i := 12) (t := 191) rfl (by rw [hc]; decide) rfl ?_
    refine mS_steps (pc' := 192) (ls' := [.ref 0, .int p1]) (st' := [.ref 0]) (mem' := (mk x y)) 1 rfl ?_
    refine mS_bind (fun q15 hq15 => mS_call 168 1 [.ref 0] [] rfl rfl rfl ⟨_, _, _, rfl, rfl⟩ (Nat.le_of_ble_eq_true rfl) (Nat.le_of_ble_eq_true rfl) hq15 (f_X10_presentNet_snd  x y) ?_)
    refine mS_steps (pc' := 195) (ls' := [.ref 0, .int p1]) (st' := .ref q15.1 :: []) (mem' := (mk q15.2 y)) 0 rfl ?_
    refine mS_guard (fun hrq15 => ?_)
    rw [hrq15]
    refine mS_steps (pc' := 195) (ls' := [.ref 0, .int p1]) (st' := [.ref 222]) (mem' := (mk q15.2 y)) 0 rfl ?_
    refine mS_bind (fun q16 hq16 => mS_call 271 1 [.ref 222] [] rfl rfl rfl ⟨_, _, _, rfl, rfl⟩ (Nat.le_of_ble_eq_true rfl) (Nat.le_of_ble_eq_true rfl) hq16 (f_X3_isTied_snd  q15.2 y) ?_)
    refine mS_steps (pc' := 198) (ls' := [.ref 0, .int p1]) (st' := [.int q16]) (mem' := (mk q15.2 y)) 0 rfl ?_
    refine mS_if0 rfl (fun _ => ?_) (fun _ => ?_)
    · refine mS_steps (pc' := 206) (ls' := [.ref 0, .int p1]) (st' := [.int (0 : Int32)]) (mem' := (mk q15.2 y)) 1 rfl ?_
      exact mS_reti ⟨_, _, _, _, _, rfl, rfl⟩ rfl
    · refine mS_steps (pc' := 206) (ls' := [.ref 0, .int p1]) (st' := [.int (1 : Int32)]) (mem' := (mk q15.2 y)) 2 rfl ?_
      exact mS_reti ⟨_, _, _, _, _, rfl, rfl⟩ rfl
  refine mS_ite (fun hc => ?_) (fun hn19 => ?_)
  · refine mS_tsw (i := 13) (t := 207) rfl (by rw [hc]; decide) rfl ?_
    refine mS_steps (pc' := 208) (ls' := [.ref 0, .int p1]) (st' := [.ref 0]) (mem' := (mk x y)) 1 rfl ?_
    refine mS_bind (fun q18 hq18 => mS_call 238 1 [.ref 0] [] rfl rfl rfl ⟨_, _, _, rfl, rfl⟩ (Nat.le_of_ble_eq_true rfl) (Nat.le_of_ble_eq_true rfl) hq18 (f_X10_fillLoads_snd  x y) ?_)
    refine mS_steps (pc' := 211) (ls' := [.ref 0, .int p1]) (st' := [.int q18.1]) (mem' := (mk q18.2 y)) 0 rfl ?_
    exact mS_reti ⟨_, _, _, _, _, rfl, rfl⟩ rfl
  refine mS_ite (fun hc => ?_) (fun hn21 => ?_)
  · refine mS_tsw (i := 14) (t := 212) rfl (by rw [hc]; decide) rfl ?_
    refine mS_steps (pc' := 213) (ls' := [.ref 0, .int p1]) (st' := [.ref 0]) (mem' := (mk x y)) 1 rfl ?_
    refine mS_bind (fun q20 hq20 => mS_call 272 1 [.ref 0] [] rfl rfl rfl ⟨_, _, _, rfl, rfl⟩ (Nat.le_of_ble_eq_true rfl) (Nat.le_of_ble_eq_true rfl) hq20 (f_X10_clearPosts_snd  x y) ?_)
    refine mS_steps (pc' := 216) (ls' := [.ref 0, .int p1]) (st' := [.int q20.1]) (mem' := (mk q20.2 y)) 0 rfl ?_
    exact mS_reti ⟨_, _, _, _, _, rfl, rfl⟩ rfl
  refine mS_ite (fun hc => ?_) (fun hn22 => ?_)
  · refine mS_tsw (i := 15) (t := 217) rfl (by rw [hc]; decide) rfl ?_
    refine mS_steps (pc' := 224) (ls' := [.ref 0, .int p1]) (st' := [.int (x.1 14 9)]) (mem' := (mk x y)) 3 rfl ?_
    exact mS_reti ⟨_, _, _, _, _, rfl, rfl⟩ rfl
  refine mS_tswd rfl (fun i hi => ?_) ?_
  · match i, hi with
    | 0, _ => exact Or.inl (m_nlit hn1 (by decide))
    | 1, _ => exact Or.inl (m_nlit hn2 (by decide))
    | 2, _ => exact Or.inl (m_nlit hn3 (by decide))
    | 3, _ => exact Or.inl (m_nlit hn5 (by decide))
    | 4, _ => exact Or.inl (m_nlit hn6 (by decide))
    | 5, _ => exact Or.inl (m_nlit hn7 (by decide))
    | 6, _ => exact Or.inl (m_nlit hn8 (by decide))
    | 7, _ => exact Or.inl (m_nlit hn9 (by decide))
    | 8, _ => exact Or.inl (m_nlit hn10 (by decide))
    | 9, _ => exact Or.inl (m_nlit hn11 (by decide))
    | 10, _ => exact Or.inl (m_nlit hn13 (by decide))
    | 11, _ => exact Or.inl (m_nlit hn14 (by decide))
    | 12, _ => exact Or.inl (m_nlit hn17 (by decide))
    | 13, _ => exact Or.inl (m_nlit hn19 (by decide))
    | 14, _ => exact Or.inl (m_nlit hn21 (by decide))
    | 15, _ => exact Or.inl (m_nlit hn22 (by decide))
    | n + 16, hi => exact absurd hi (by simp)
  refine mS_steps (pc' := 226) (ls' := [.ref 0, .int p1]) (st' := [.int (-1 : Int32)]) (mem' := (mk x y)) 1 rfl ?_
  exact mS_reti ⟨_, _, _, _, _, rfl, rfl⟩ rfl
def f_X11_apartFromRoot_L4 : Nat → Int32 → Int32 → mY → Option (Int32 × mY)
  | 0, _, _, _ => none
  | n + 1, a1, a2, y => (if (y.1 279 17) ≤ a2 then (some (a1, y)) else ((f_X11_placeOf (y.1 279 18) a2 y).bind fun q1 => (if q1.1 < 0 then (f_X11_apartFromRoot_L4 n a1 (a2 + (1 : Int32)) q1.2) else ((f_X11_onWay (q1.2.1 279 18) a2 (0 : Int32) q1.2).bind fun q2 => ((f_X11_onWay (q1.2.1 279 18) a2 (1 : Int32) q1.2).bind fun q3 => (if (q2 &&& q3) = 0 then (f_X11_apartFromRoot_L4 n (a1 ||| ((1 : Int32) <<< (a2 &&& 31))) (a2 + (1 : Int32)) q1.2) else (f_X11_apartFromRoot_L4 n a1 (a2 + (1 : Int32)) q1.2)))))))
def f_X11_apartFromRoot (y : mY) : Option (Int32 × mY) := (f_X11_apartFromRoot_L4 mF (0 : Int32) (0 : Int32) y)
set_option maxRecDepth 20000 in
set_option maxHeartbeats 2000000 in
theorem f_X11_apartFromRoot_L4_snd {fm : Value} {L : Nat} {xs : Nat → Int32} (x : mX) : ∀ (n : Nat) (a1 : Int32) (a2 : Int32) (y : mY), mS fm L xs (fun r : (Int32 × mY) => (.int r.1, mk x r.2)) pg_X11_apartFromRoot 4 [.ref 279, .int a1, .int a2] [] (mk x y) (f_X11_apartFromRoot_L4 n a1 a2 y) := by
  intro n
  induction n with
  | zero => intro a1 a2 y; exact mS_none
  | succ n ih =>
    intro a1 a2 y
    rw [f_X11_apartFromRoot_L4]
    refine mS_steps (pc' := 9) (ls' := [.ref 279, .int a1, .int a2]) (st' := [.int (y.1 279 17), .int a2]) (mem' := (mk x y)) 3 rfl ?_
    refine mS_ic3 rfl (fun _ => ?_) (fun _ => ?_)
    · refine mS_steps (pc' := 61) (ls' := [.ref 279, .int a1, .int a2]) (st' := [.int a1]) (mem' := (mk x y)) 1 rfl ?_
      exact mS_reti ⟨_, _, _, _, _, rfl, rfl⟩ rfl
    · refine mS_steps (pc' := 18) (ls' := [.ref 279, .int a1, .int a2]) (st' := [.int a2, .int (y.1 279 18), .ref 279]) (mem' := (mk x y)) 4 rfl ?_
      refine mS_bind (fun q1 hq1 => mS_call 189 3 [.ref 279, .int (y.1 279 18), .int a2] [] rfl rfl rfl ⟨_, _, _, rfl, rfl⟩ (Nat.le_of_ble_eq_true rfl) (Nat.le_of_ble_eq_true rfl) hq1 (f_X11_placeOf_snd (y.1 279 18) a2 y x) ?_)
      refine mS_steps (pc' := 21) (ls' := [.ref 279, .int a1, .int a2]) (st' := [.int q1.1]) (mem' := (mk x q1.2)) 0 rfl ?_
      refine mS_if2 rfl (fun _ => ?_) (fun _ => ?_)
      · refine mS_steps (pc' := 4) (ls' := [.ref 279, .int a1, .int (a2 + (1 : Int32))]) (st' := []) (mem' := (mk x q1.2)) 2 rfl ?_
        exact ih a1 (a2 + (1 : Int32)) q1.2
      · refine mS_steps (pc' := 31) (ls' := [.ref 279, .int a1, .int a2]) (st' := [.int (0 : Int32), .int a2, .int (q1.2.1 279 18), .ref 279]) (mem' := (mk x q1.2)) 5 rfl ?_
        refine mS_bind (fun q2 hq2 => mS_call 204 4 [.ref 279, .int (q1.2.1 279 18), .int a2, .int (0 : Int32)] [] rfl rfl rfl ⟨_, _, _, rfl, rfl⟩ (Nat.le_of_ble_eq_true rfl) (Nat.le_of_ble_eq_true rfl) hq2 (f_X11_onWay_snd (q1.2.1 279 18) a2 (0 : Int32) q1.2 x) ?_)
        refine mS_steps (pc' := 41) (ls' := [.ref 279, .int a1, .int a2]) (st' := [.int (1 : Int32), .int a2, .int (q1.2.1 279 18), .ref 279, .int q2]) (mem' := (mk x q1.2)) 5 rfl ?_
        refine mS_bind (fun q3 hq3 => mS_call 204 4 [.ref 279, .int (q1.2.1 279 18), .int a2, .int (1 : Int32)] [.int q2] rfl rfl rfl ⟨_, _, _, rfl, rfl⟩ (Nat.le_of_ble_eq_true rfl) (Nat.le_of_ble_eq_true rfl) hq3 (f_X11_onWay_snd (q1.2.1 279 18) a2 (1 : Int32) q1.2 x) ?_)
        refine mS_steps (pc' := 45) (ls' := [.ref 279, .int a1, .int a2]) (st' := [.int (q2 &&& q3)]) (mem' := (mk x q1.2)) 1 rfl ?_
        refine mS_if1 rfl (fun _ => ?_) (fun _ => ?_)
        · refine mS_steps (pc' := 4) (ls' := [.ref 279, .int (a1 ||| ((1 : Int32) <<< (a2 &&& 31))), .int (a2 + (1 : Int32))]) (st' := []) (mem' := (mk x q1.2)) 8 rfl ?_
          exact ih (a1 ||| ((1 : Int32) <<< (a2 &&& 31))) (a2 + (1 : Int32)) q1.2
        · refine mS_steps (pc' := 4) (ls' := [.ref 279, .int a1, .int (a2 + (1 : Int32))]) (st' := []) (mem' := (mk x q1.2)) 2 rfl ?_
          exact ih a1 (a2 + (1 : Int32)) q1.2
set_option maxRecDepth 20000 in
set_option maxHeartbeats 2000000 in
theorem f_X11_apartFromRoot_snd {fm : Value} {L : Nat} {xs : Nat → Int32} (y : mY) (x : mX) : mS fm L xs (fun r : (Int32 × mY) => (.int r.1, mk x r.2)) pg_X11_apartFromRoot 0 (m_entry [.ref 279] 3) [] (mk x y) ((f_X11_apartFromRoot y)) := by
  unfold f_X11_apartFromRoot
  refine mS_steps (pc' := 0) (ls' := [.ref 279, mU, mU]) (st' := []) (mem' := (mk x y)) 0 rfl ?_
  refine mS_steps (pc' := 4) (ls' := [.ref 279, .int (0 : Int32), .int (0 : Int32)]) (st' := []) (mem' := (mk x y)) 4 rfl ?_
  refine f_X11_apartFromRoot_L4_snd x mF (0 : Int32) (0 : Int32) y
def f_X11_count_L223 : Nat → Int32 → Int32 → mY → Option (Int32 × mY)
  | 0, _, _, _ => none
  | n + 1, a2, a3, y => (if (y.1 289 4) ≤ a3 then (some (a2, y)) else (if m_in a3 16 = true then (if (y.1 310 a3.toNatClampNeg) ≤ a2 then (f_X11_count_L223 n a2 (a3 + (1 : Int32)) y) else (if m_in a3 16 = true then (f_X11_count_L223 n (y.1 310 a3.toNatClampNeg) (a3 + (1 : Int32)) y) else none)) else none))
def f_X11_count (p1 : Int32) (y : mY) : Option (Int32 × mY) := (if p1 = (0 : Int32) then (some ((y.1 279 17), y)) else (if p1 = (1 : Int32) then (some ((y.1 289 4), y)) else (if p1 = (2 : Int32) then (some ((y.1 289 0), y)) else (if p1 = (3 : Int32) then ((f_X11_netLinks y).bind fun q4 => (some (q4, y))) else (if p1 = (4 : Int32) then (some ((y.1 289 3), y)) else (if p1 = (5 : Int32) then (some ((y.1 289 2), y)) else (if p1 = (6 : Int32) then (some ((y.1 279 18), y)) else (if p1 = (7 : Int32) then (some ((y.1 289 5), y)) else (if p1 = (8 : Int32) then (some ((y.1 279 2), y)) else (if p1 = (9 : Int32) then (some ((y.1 279 27), y)) else (if p1 = (10 : Int32) then (m_jn (fun w13 => (m_jn (fun w15 => (if (y.1 292 2) = 0 then (some (((w13 + w15) + (0 : Int32)), y)) else (some (((w13 + w15) + (1 : Int32)), y)))) (fun j14 => if (y.1 292 1) = 0 then (j14 (0 : Int32)) else (j14 (1 : Int32))))) (fun j12 => if (y.1 292 0) = 0 then (j12 (0 : Int32)) else (j12 (1 : Int32)))) else (if p1 = (11 : Int32) then (some ((y.1 289 6), y)) else (if p1 = (12 : Int32) then ((f_X11_netLinks y).bind fun q18 => ((f_X11_lays_ (2 : Int32) q18 y).bind fun q19 => ((f_X11_isTied q19).bind fun q20 => (if q20 = 0 then (some ((0 : Int32), q19)) else (some ((1 : Int32), q19)))))) else (if p1 = (13 : Int32) then ((f_X11_laysLoads y).bind fun q22 => (f_X11_count_L223 mF (0 : Int32) (0 : Int32) q22)) else (if p1 = (14 : Int32) then ((f_X11_apartFromRoot y).bind fun q24 => (some (q24.1, q24.2))) else (if p1 = (15 : Int32) then (some ((y.1 289 7), y)) else (some ((-1 : Int32), y))))))))))))))))))
set_option maxRecDepth 20000 in
set_option maxHeartbeats 2000000 in
theorem f_X11_count_L223_snd {fm : Value} {L : Nat} {xs : Nat → Int32} (y : mY) (x : mX) : ∀ (n : Nat) (a2 : Int32) (a3 : Int32), mS fm L xs (fun r : (Int32 × mY) => (.int r.1, mk x r.2)) pg_X11_count 223 [.ref 279, mU, .int a2, .int a3] [] (mk x y) (f_X11_count_L223 n a2 a3 y) := by
  intro n
  induction n with
  | zero => intro a2 a3; exact mS_none
  | succ n ih =>
    intro a2 a3
    rw [f_X11_count_L223]
    refine mS_steps (pc' := 229) (ls' := [.ref 279, mU, .int a2, .int a3]) (st' := [.int (4 : Int32), .ref 289, .int a3]) (mem' := (mk x y)) 4 rfl ?_
    refine mS_aldc (b := 0) (n := 72) (c := 4) (z := (y.1 289 4)) rfl (by decide) rfl (by decide) (by decide) (by decide) rfl ?_
    refine mS_ic3 rfl (fun _ => ?_) (fun _ => ?_)
    · refine mS_steps (pc' := 257) (ls' := [.ref 279, mU, .int a2, .int a3]) (st' := [.int a2]) (mem' := (mk x y)) 1 rfl ?_
      exact mS_reti ⟨_, _, _, _, _, rfl, rfl⟩ rfl
    · refine mS_steps (pc' := 238) (ls' := [.ref 279, mU, .int a2, .int a3]) (st' := [.int a3, .ref 310]) (mem' := (mk x y)) 3 rfl ?_
      refine mS_ald (b := 0) (n := 16) (z := (y.1 310 a3.toNatClampNeg)) rfl (by decide) rfl (by decide) rfl (fun _ => ?_)
      refine mS_steps (pc' := 240) (ls' := [.ref 279, mU, .int a2, .int a3]) (st' := [.int a2, .int (y.1 310 a3.toNatClampNeg)]) (mem' := (mk x y)) 1 rfl ?_
      refine mS_ic5 rfl (fun _ => ?_) (fun _ => ?_)
      · refine mS_steps (pc' := 223) (ls' := [.ref 279, mU, .int a2, .int (a3 + (1 : Int32))]) (st' := []) (mem' := (mk x y)) 2 rfl ?_
        exact ih a2 (a3 + (1 : Int32))
      · refine mS_steps (pc' := 248) (ls' := [.ref 279, mU, .int a2, .int a3]) (st' := [.int a3, .ref 310]) (mem' := (mk x y)) 3 rfl ?_
        refine mS_ald (b := 0) (n := 16) (z := (y.1 310 a3.toNatClampNeg)) rfl (by decide) rfl (by decide) rfl (fun _ => ?_)
        refine mS_steps (pc' := 223) (ls' := [.ref 279, mU, .int (y.1 310 a3.toNatClampNeg), .int (a3 + (1 : Int32))]) (st' := []) (mem' := (mk x y)) 3 rfl ?_
        exact ih (y.1 310 a3.toNatClampNeg) (a3 + (1 : Int32))
set_option maxRecDepth 20000 in
set_option maxHeartbeats 2000000 in
theorem f_X11_count_snd {fm : Value} {L : Nat} {xs : Nat → Int32} (p1 : Int32) (y : mY) (x : mX) : mS fm L xs (fun r : (Int32 × mY) => (.int r.1, mk x r.2)) pg_X11_count 0 (m_entry [.ref 279, .int p1] 4) [] (mk x y) ((f_X11_count p1 y)) := by
  unfold f_X11_count
  refine mS_steps (pc' := 0) (ls' := [.ref 279, .int p1, mU, mU]) (st' := []) (mem' := (mk x y)) 0 rfl ?_
  refine mS_steps (pc' := 1) (ls' := [.ref 279, .int p1, mU, mU]) (st' := [.int p1]) (mem' := (mk x y)) 1 rfl ?_
  refine mS_ite (fun hc => ?_) (fun hn1 => ?_)
  · refine mS_tsw (i := 0) (t := 80) rfl (by rw [hc]; decide) rfl ?_
    refine mS_steps (pc' := 84) (ls' := [.ref 279, .int p1, mU, mU]) (st' := [.int (y.1 279 17)]) (mem' := (mk x y)) 2 rfl ?_
    exact mS_reti ⟨_, _, _, _, _, rfl, rfl⟩ rfl
  refine mS_ite (fun hc => ?_) (fun hn2 => ?_)
  · refine mS_tsw (i := 1) (t := 85) rfl (by rw [hc]; decide) rfl ?_
    refine mS_steps (pc' := 90) (ls' := [.ref 279, .int p1, mU, mU]) (st' := [.int (4 : Int32), .ref 289]) (mem' := (mk x y)) 3 rfl ?_
    refine mS_aldc (b := 0) (n := 72) (c := 4) (z := (y.1 289 4)) rfl (by decide) rfl (by decide) (by decide) (by decide) rfl ?_
    exact mS_reti ⟨_, _, _, _, _, rfl, rfl⟩ rfl
  refine mS_ite (fun hc => ?_) (fun hn3 => ?_)
  · refine mS_tsw (i := 2) (t := 92) rfl (by rw [hc]; decide) rfl ?_
    refine mS_steps (pc' := 97) (ls' := [.ref 279, .int p1, mU, mU]) (st' := [.int (0 : Int32), .ref 289]) (mem' := (mk x y)) 3 rfl ?_
    refine mS_aldc (b := 0) (n := 72) (c := 0) (z := (y.1 289 0)) rfl (by decide) rfl (by decide) (by decide) (by decide) rfl ?_
    exact mS_reti ⟨_, _, _, _, _, rfl, rfl⟩ rfl
  refine mS_ite (fun hc => ?_) (fun hn5 => ?_)
  · refine mS_tsw (i := 3) (t := 99) rfl (by rw [hc]; decide) rfl ?_
    refine mS_steps (pc' := 100) (ls' := [.ref 279, .int p1, mU, mU]) (st' := [.ref 279]) (mem' := (mk x y)) 1 rfl ?_
    refine mS_bind (fun q4 hq4 => mS_call 89 1 [.ref 279] [] rfl rfl rfl ⟨_, _, _, rfl, rfl⟩ (Nat.le_of_ble_eq_true rfl) (Nat.le_of_ble_eq_true rfl) hq4 (f_X11_netLinks_snd  y x) ?_)
    refine mS_steps (pc' := 103) (ls' := [.ref 279, .int p1, mU, mU]) (st' := [.int q4]) (mem' := (mk x y)) 0 rfl ?_
    exact mS_reti ⟨_, _, _, _, _, rfl, rfl⟩ rfl
  refine mS_ite (fun hc => ?_) (fun hn6 => ?_)
  · refine mS_tsw (i := 4) (t := 104) rfl (by rw [hc]; decide) rfl ?_
    refine mS_steps (pc' := 109) (ls' := [.ref 279, .int p1, mU, mU]) (st' := [.int (3 : Int32), .ref 289]) (mem' := (mk x y)) 3 rfl ?_
    refine mS_aldc (b := 0) (n := 72) (c := 3) (z := (y.1 289 3)) rfl (by decide) rfl (by decide) (by decide) (by decide) rfl ?_
    exact mS_reti ⟨_, _, _, _, _, rfl, rfl⟩ rfl
  refine mS_ite (fun hc => ?_) (fun hn7 => ?_)
  · refine mS_tsw (i := 5) (t := 111) rfl (by rw [hc]; decide) rfl ?_
    refine mS_steps (pc' := 116) (ls' := [.ref 279, .int p1, mU, mU]) (st' := [.int (2 : Int32), .ref 289]) (mem' := (mk x y)) 3 rfl ?_
    refine mS_aldc (b := 0) (n := 72) (c := 2) (z := (y.1 289 2)) rfl (by decide) rfl (by decide) (by decide) (by decide) rfl ?_
    exact mS_reti ⟨_, _, _, _, _, rfl, rfl⟩ rfl
  refine mS_ite (fun hc => ?_) (fun hn8 => ?_)
  · refine mS_tsw (i := 6) (t := 118) rfl (by rw [hc]; decide) rfl ?_
    refine mS_steps (pc' := 122) (ls' := [.ref 279, .int p1, mU, mU]) (st' := [.int (y.1 279 18)]) (mem' := (mk x y)) 2 rfl ?_
    exact mS_reti ⟨_, _, _, _, _, rfl, rfl⟩ rfl
  refine mS_ite (fun hc => ?_) (fun hn9 => ?_)
  · refine mS_tsw (i := 7) (t := 123) rfl (by rw [hc]; decide) rfl ?_
    refine mS_steps (pc' := 128) (ls' := [.ref 279, .int p1, mU, mU]) (st' := [.int (5 : Int32), .ref 289]) (mem' := (mk x y)) 3 rfl ?_
    refine mS_aldc (b := 0) (n := 72) (c := 5) (z := (y.1 289 5)) rfl (by decide) rfl (by decide) (by decide) (by decide) rfl ?_
    exact mS_reti ⟨_, _, _, _, _, rfl, rfl⟩ rfl
  refine mS_ite (fun hc => ?_) (fun hn10 => ?_)
  · refine mS_tsw (i := 8) (t := 130) rfl (by rw [hc]; decide) rfl ?_
    refine mS_steps (pc' := 134) (ls' := [.ref 279, .int p1, mU, mU]) (st' := [.int (y.1 279 2)]) (mem' := (mk x y)) 2 rfl ?_
    exact mS_reti ⟨_, _, _, _, _, rfl, rfl⟩ rfl
  refine mS_ite (fun hc => ?_) (fun hn11 => ?_)
  · refine mS_tsw (i := 9) (t := 135) rfl (by rw [hc]; decide) rfl ?_
    refine mS_steps (pc' := 139) (ls' := [.ref 279, .int p1, mU, mU]) (st' := [.int (y.1 279 27)]) (mem' := (mk x y)) 2 rfl ?_
    exact mS_reti ⟨_, _, _, _, _, rfl, rfl⟩ rfl
  refine mS_ite (fun hc => ?_) (fun hn16 => ?_)
  · refine mS_tsw (i := 10) (t := 140) rfl (by rw [hc]; decide) rfl ?_
    refine mS_steps (pc' := 145) (ls' := [.ref 279, .int p1, mU, mU]) (st' := [.int (0 : Int32), .ref 292]) (mem' := (mk x y)) 3 rfl ?_
    refine mS_aldc (b := 3) (n := 3) (c := 0) (z := (y.1 292 0)) rfl (by decide) rfl (by decide) (by decide) (by decide) rfl ?_
    refine mS_jn (fun j => ∀ z : Int32, mS fm L xs (fun r : (Int32 × mY) => (.int r.1, mk x r.2)) pg_X11_count 154 [.ref 279, mU, mU, mU] [.int z] (mk x y) (j z)) ?_ ?_
    · intro z
      revert z; intro w13
      refine mS_steps (pc' := 159) (ls' := [.ref 279, mU, mU, mU]) (st' := [.int (1 : Int32), .ref 292, .int w13]) (mem' := (mk x y)) 3 rfl ?_
      refine mS_aldc (b := 3) (n := 3) (c := 1) (z := (y.1 292 1)) rfl (by decide) rfl (by decide) (by decide) (by decide) rfl ?_
      refine mS_jn (fun j => ∀ z : Int32, mS fm L xs (fun r : (Int32 × mY) => (.int r.1, mk x r.2)) pg_X11_count 168 [.ref 279, mU, mU, mU] [.int z, .int w13] (mk x y) (j z)) ?_ ?_
      · intro z
        revert z; intro w15
        refine mS_steps (pc' := 174) (ls' := [.ref 279, mU, mU, mU]) (st' := [.int (2 : Int32), .ref 292, .int (w13 + w15)]) (mem' := (mk x y)) 4 rfl ?_
        refine mS_aldc (b := 3) (n := 3) (c := 2) (z := (y.1 292 2)) rfl (by decide) rfl (by decide) (by decide) (by decide) rfl ?_
        refine mS_if0 rfl (fun _ => ?_) (fun _ => ?_)
        · refine mS_steps (pc' := 184) (ls' := [.ref 279, mU, mU, mU]) (st' := [.int ((w13 + w15) + (0 : Int32))]) (mem' := (mk x y)) 2 rfl ?_
          exact mS_reti ⟨_, _, _, _, _, rfl, rfl⟩ rfl
        · refine mS_steps (pc' := 184) (ls' := [.ref 279, mU, mU, mU]) (st' := [.int ((w13 + w15) + (1 : Int32))]) (mem' := (mk x y)) 3 rfl ?_
          exact mS_reti ⟨_, _, _, _, _, rfl, rfl⟩ rfl
      intro j14 hj14
      refine mS_if0 rfl (fun _ => ?_) (fun _ => ?_)
      · refine mS_steps (pc' := 168) (ls' := [.ref 279, mU, mU, mU]) (st' := [.int (0 : Int32), .int w13]) (mem' := (mk x y)) 1 rfl ?_
        exact hj14 (0 : Int32)
      · refine mS_steps (pc' := 168) (ls' := [.ref 279, mU, mU, mU]) (st' := [.int (1 : Int32), .int w13]) (mem' := (mk x y)) 2 rfl ?_
        exact hj14 (1 : Int32)
    intro j12 hj12
    refine mS_if0 rfl (fun _ => ?_) (fun _ => ?_)
    · refine mS_steps (pc' := 154) (ls' := [.ref 279, .int p1, mU, mU]) (st' := [.int (0 : Int32)]) (mem' := (mk x y)) 1 rfl ?_
      refine mS_forget [.ref 279, mU, mU, mU] ⟨Or.inr rfl, Or.inl rfl, Or.inl rfl, Or.inl rfl, trivial⟩ ?_
      exact hj12 (0 : Int32)
    · refine mS_steps (pc' := 154) (ls' := [.ref 279, .int p1, mU, mU]) (st' := [.int (1 : Int32)]) (mem' := (mk x y)) 2 rfl ?_
      refine mS_forget [.ref 279, mU, mU, mU] ⟨Or.inr rfl, Or.inl rfl, Or.inl rfl, Or.inl rfl, trivial⟩ ?_
      exact hj12 (1 : Int32)
  refine mS_ite (fun hc => ?_) (fun hn17 => ?_)
  · refine mS_tsw (i := 11) (t := 185) rfl (by rw [hc]; decide) rfl ?_
    refine mS_steps (pc' := 191) (ls' := [.ref 279, .int p1, mU, mU]) (st' := [.int (6 : Int32), .ref 289]) (mem' := (mk x y)) 3 rfl ?_
    refine mS_aldc (b := 0) (n := 72) (c := 6) (z := (y.1 289 6)) rfl (by decide) rfl (by decide) (by decide) (by decide) rfl ?_
    exact mS_reti ⟨_, _, _, _, _, rfl, rfl⟩ rfl
  refine mS_ite (fun hc => ?_) (fun hn21 => ?_)
  · refine mS_tsw (i := 12) (t := 193) rfl (by rw [hc]; decide) rfl ?_
    refine mS_steps (pc' := 196) (ls' := [.ref 279, .int p1, mU, mU]) (st' := [.ref 279, .int (2 : Int32), .ref 279]) (mem' := (mk x y)) 3 rfl ?_
    refine mS_bind (fun q18 hq18 => mS_call 89 1 [.ref 279] [.int (2 : Int32), .ref 279] rfl rfl rfl ⟨_, _, _, rfl, rfl⟩ (Nat.le_of_ble_eq_true rfl) (Nat.le_of_ble_eq_true rfl) hq18 (f_X11_netLinks_snd  y x) ?_)
    refine mS_steps (pc' := 199) (ls' := [.ref 279, .int p1, mU, mU]) (st' := [.int q18, .int (2 : Int32), .ref 279]) (mem' := (mk x y)) 0 rfl ?_
    refine mS_bind (fun q19 hq19 => mS_call 142 3 [.ref 279, .int (2 : Int32), .int q18] [] rfl rfl rfl ⟨_, _, _, rfl, rfl⟩ (Nat.le_of_ble_eq_true rfl) (Nat.le_of_ble_eq_true rfl) hq19 (f_X11_lays__snd (2 : Int32) q18 y x) ?_)
    refine mS_steps (pc' := 203) (ls' := [.ref 279, .int p1, mU, mU]) (st' := [.ref 279]) (mem' := (mk x q19)) 1 rfl ?_
    refine mS_bind (fun q20 hq20 => mS_call 263 1 [.ref 279] [] rfl rfl rfl ⟨_, _, _, rfl, rfl⟩ (Nat.le_of_ble_eq_true rfl) (Nat.le_of_ble_eq_true rfl) hq20 (f_X11_isTied_snd  q19 x) ?_)
    refine mS_steps (pc' := 206) (ls' := [.ref 279, .int p1, mU, mU]) (st' := [.int q20]) (mem' := (mk x q19)) 0 rfl ?_
    refine mS_if0 rfl (fun _ => ?_) (fun _ => ?_)
    · refine mS_steps (pc' := 214) (ls' := [.ref 279, .int p1, mU, mU]) (st' := [.int (0 : Int32)]) (mem' := (mk x q19)) 1 rfl ?_
      exact mS_reti ⟨_, _, _, _, _, rfl, rfl⟩ rfl
    · refine mS_steps (pc' := 214) (ls' := [.ref 279, .int p1, mU, mU]) (st' := [.int (1 : Int32)]) (mem' := (mk x q19)) 2 rfl ?_
      exact mS_reti ⟨_, _, _, _, _, rfl, rfl⟩ rfl
  refine mS_ite (fun hc => ?_) (fun hn23 => ?_)
  · refine mS_tsw (i := 13) (t := 215) rfl (by rw [hc]; decide) rfl ?_
    refine mS_steps (pc' := 216) (ls' := [.ref 279, .int p1, mU, mU]) (st' := [.ref 279]) (mem' := (mk x y)) 1 rfl ?_
    refine mS_bind (fun q22 hq22 => mS_call 240 1 [.ref 279] [] rfl rfl rfl ⟨_, _, _, rfl, rfl⟩ (Nat.le_of_ble_eq_true rfl) (Nat.le_of_ble_eq_true rfl) hq22 (f_X11_laysLoads_snd  y x) ?_)
    refine mS_steps (pc' := 223) (ls' := [.ref 279, .int p1, .int (0 : Int32), .int (0 : Int32)]) (st' := []) (mem' := (mk x q22)) 4 rfl ?_
    refine mS_forget [.ref 279, mU, .int (0 : Int32), .int (0 : Int32)] ⟨Or.inr rfl, Or.inl rfl, Or.inr rfl, Or.inr rfl, trivial⟩ ?_
    refine f_X11_count_L223_snd q22 x mF (0 : Int32) (0 : Int32)
  refine mS_ite (fun hc => ?_) (fun hn25 => ?_)
  · refine mS_tsw (i := 14) (t := 258) rfl (by rw [hc]; decide) rfl ?_
    refine mS_steps (pc' := 259) (ls' := [.ref 279, .int p1, mU, mU]) (st' := [.ref 279]) (mem' := (mk x y)) 1 rfl ?_
    refine mS_bind (fun q24 hq24 => mS_call 274 1 [.ref 279] [] rfl rfl rfl ⟨_, _, _, rfl, rfl⟩ (Nat.le_of_ble_eq_true rfl) (Nat.le_of_ble_eq_true rfl) hq24 (f_X11_apartFromRoot_snd  y x) ?_)
    refine mS_steps (pc' := 262) (ls' := [.ref 279, .int p1, mU, mU]) (st' := [.int q24.1]) (mem' := (mk x q24.2)) 0 rfl ?_
    exact mS_reti ⟨_, _, _, _, _, rfl, rfl⟩ rfl
  refine mS_ite (fun hc => ?_) (fun hn26 => ?_)
  · refine mS_tsw (i := 15) (t := 263) rfl (by rw [hc]; decide) rfl ?_
    refine mS_steps (pc' := 269) (ls' := [.ref 279, .int p1, mU, mU]) (st' := [.int (7 : Int32), .ref 289]) (mem' := (mk x y)) 3 rfl ?_
    refine mS_aldc (b := 0) (n := 72) (c := 7) (z := (y.1 289 7)) rfl (by decide) rfl (by decide) (by decide) (by decide) rfl ?_
    exact mS_reti ⟨_, _, _, _, _, rfl, rfl⟩ rfl
  refine mS_tswd rfl (fun i hi => ?_) ?_
  · match i, hi with
    | 0, _ => exact Or.inl (m_nlit hn1 (by decide))
    | 1, _ => exact Or.inl (m_nlit hn2 (by decide))
    | 2, _ => exact Or.inl (m_nlit hn3 (by decide))
    | 3, _ => exact Or.inl (m_nlit hn5 (by decide))
    | 4, _ => exact Or.inl (m_nlit hn6 (by decide))
    | 5, _ => exact Or.inl (m_nlit hn7 (by decide))
    | 6, _ => exact Or.inl (m_nlit hn8 (by decide))
    | 7, _ => exact Or.inl (m_nlit hn9 (by decide))
    | 8, _ => exact Or.inl (m_nlit hn10 (by decide))
    | 9, _ => exact Or.inl (m_nlit hn11 (by decide))
    | 10, _ => exact Or.inl (m_nlit hn16 (by decide))
    | 11, _ => exact Or.inl (m_nlit hn17 (by decide))
    | 12, _ => exact Or.inl (m_nlit hn21 (by decide))
    | 13, _ => exact Or.inl (m_nlit hn23 (by decide))
    | 14, _ => exact Or.inl (m_nlit hn25 (by decide))
    | 15, _ => exact Or.inl (m_nlit hn26 (by decide))
    | n + 16, hi => exact absurd hi (by simp)
  refine mS_steps (pc' := 272) (ls' := [.ref 279, .int p1, mU, mU]) (st' := [.int (-1 : Int32)]) (mem' := (mk x y)) 1 rfl ?_
  exact mS_reti ⟨_, _, _, _, _, rfl, rfl⟩ rfl
