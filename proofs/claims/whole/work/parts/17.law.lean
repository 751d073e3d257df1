/-! ===== the law: its calls, its loop (written by wip/whole/gen/gen17.py) ===== -/
def m_callX (op : Nat) (s1 s2 s3 s4 s5 : Int32) (x : mX) : Option (Int32 × mX) := match op with
  | 0 => f_X10_feed s1 s2 s3 s4 s5 x
  | 1 => f_X10_back s1 x
  | 2 => f_X10_read x
  | 3 => some (f_X10_place x, x)
  | 4 => f_X10_join s1 (if s2 = 0 then 0 else 1) x
  | 5 => f_X10_cost s1 s2 x
  | 6 => f_X10_power s1 (if s2 = 0 then 0 else 1) x
  | 7 => f_X10_lay s1 s2 s3 x
  | 8 => f_X10_learn x
  | 9 => f_X10_send s1 s2 x
  | 10 => f_X10_undo x
  | 11 => (f_X10_link s1 s2 x).map fun r => (r, x)
  | 12 => f_X10_piece s1 s2 x
  | 13 => f_X10_block s1 s2 x
  | 14 => f_X10_cuts s1 x
  | 15 => f_X10_bridges s1 x
  | 16 => f_X10_head s1 s2 x
  | 17 => f_X10_last s1 s2 x
  | 18 => f_X10_order s1 s2 s3 x
  | 19 => f_X10_hop s1 s2 s3 x
  | 20 => f_X10_way s1 s2 s3 s4 x
  | 21 => f_X10_both s1 s2 x
  | 22 => f_X10_search s1 s2 s3 x
  | 23 => f_X10_ear s1 s2 s3 s4 x
  | 24 => f_X10_would s1 s2 s3 x
  | 25 => f_X10_loss s1 s2 x
  | 26 => f_X10_weak s1 s2 x
  | 27 => f_X10_load s1 x
  | 28 => f_X10_cheap s1 s2 x
  | 29 => f_X10_pair s1 s2 x
  | 30 => f_X10_dear s1 s2 s3 x
  | 31 => f_X10_grow s1 x
  | 32 => f_X10_hold s1 x
  | 33 => f_X10_restore s1 x
  | 34 => f_X10_count s1 x
  | _ => some (0, x)
def m_callY (op : Nat) (s1 s2 s3 s4 s5 : Int32) (y : mY) : Option (Int32 × mY) := match op with
  | 0 => f_X11_feed s1 s2 s3 s4 s5 y
  | 1 => f_X11_back s1 y
  | 2 => f_X11_read y
  | 3 => some (f_X11_place y, y)
  | 4 => f_X11_join s1 (if s2 = 0 then 0 else 1) y
  | 5 => f_X11_cost s1 s2 y
  | 6 => f_X11_power s1 (if s2 = 0 then 0 else 1) y
  | 7 => f_X11_lay s1 s2 s3 y
  | 8 => f_X11_learn y
  | 9 => f_X11_send s1 s2 y
  | 10 => f_X11_undo y
  | 11 => (f_X11_link s1 s2 y).map fun r => (r, y)
  | 12 => f_X11_piece s1 s2 y
  | 13 => f_X11_block s1 s2 y
  | 14 => f_X11_cuts s1 y
  | 15 => f_X11_bridges s1 y
  | 16 => f_X11_head s1 s2 y
  | 17 => f_X11_last s1 s2 y
  | 18 => f_X11_order s1 s2 s3 y
  | 19 => f_X11_hop s1 s2 s3 y
  | 20 => f_X11_way s1 s2 s3 s4 y
  | 21 => f_X11_both s1 s2 y
  | 22 => f_X11_search s1 s2 s3 y
  | 23 => f_X11_ear s1 s2 s3 s4 y
  | 24 => f_X11_would s1 s2 s3 y
  | 25 => f_X11_loss s1 s2 y
  | 26 => f_X11_weak s1 s2 y
  | 27 => f_X11_load s1 y
  | 28 => f_X11_cheap s1 s2 y
  | 29 => f_X11_pair s1 s2 y
  | 30 => f_X11_dear s1 s2 s3 y
  | 31 => f_X11_grow s1 y
  | 32 => f_X11_hold s1 y
  | 33 => f_X11_restore s1 y
  | 34 => f_X11_count s1 y
  | _ => some (0, y)
section ML
variable {fm : Value} {L : Nat} {xs : Nat → Int32}
abbrev m_gl : mX × mY → Value × mM := fun r => (.int 1, mk r.1 r.2)
abbrev m_lsl (i : Int32) : List Value := [.ref (mBIG + 100), .ref 0, .ref 279, .int i]
theorem mS_sld {α : Type} {g : α → Value × mM} {pg : List (Nat × mO)} {pc a b d : Nat} {v : Value} {ts : List Nat} {ls st : List Value} {mem : mM} {A : Option α} {j z : Int32} (hl : pg.lookup pc = some (26, a, b, d, v, ts)) (hj : m_in j L = true) (hz : xs j.toNatClampNeg = z) (k : mS fm L xs g pg (pc + 1) ls (.int z :: st) mem A) : mS fm L xs g pg pc ls (.int j :: .ref (mBIG + 100) :: st) mem A :=
  mS_one hl (by decide) (by simp only [m_step]; rw [if_pos ⟨trivial, hj⟩, hz]) k
theorem mS_slen {α : Type} {g : α → Value × mM} {pg : List (Nat × mO)} {pc a b d : Nat} {v : Value} {ts : List Nat} {ls st : List Value} {mem : mM} {A : Option α} (hl : pg.lookup pc = some (25, a, b, d, v, ts)) (k : mS fm L xs g pg (pc + 1) ls (.int (Int32.ofNat L) :: st) mem A) : mS fm L xs g pg pc ls (.ref (mBIG + 100) :: st) mem A :=
  mS_one hl (by decide) (by simp only [m_step]; rw [if_pos trivial]) k
set_option maxRecDepth 20000 in
set_option maxHeartbeats 2000000 in
theorem law_c0 (hfm : fm = .null ∨ fm = .ref (mBIG + 200)) {i s1 s2 s3 s4 s5 r : Int32} {x x2 : mX} {y y2 : mY} {A : Option (mX × mY)} (h1 : m_in (i + 1) L = true) (e1 : xs (i + 1).toNatClampNeg = s1) (h2 : m_in (i + 2) L = true) (e2 : xs (i + 2).toNatClampNeg = s2) (h3 : m_in (i + 3) L = true) (e3 : xs (i + 3).toNatClampNeg = s3) (h4 : m_in (i + 4) L = true) (e4 : xs (i + 4).toNatClampNeg = s4) (h5 : m_in (i + 5) L = true) (e5 : xs (i + 5).toNatClampNeg = s5) (hx : m_callX 0 s1 s2 s3 s4 s5 x = some (r, x2)) (hy : m_callY 0 s1 s2 s3 s4 s5 y = some (r, y2)) (k : mS fm L xs m_gl pg_L_law 1345 [.ref (mBIG + 100), .ref 0, .ref 279, .int i] [] (mk x2 y2) A) : mS fm L xs m_gl pg_L_law 188 [.ref (mBIG + 100), .ref 0, .ref 279, .int i] [] (mk x y) A := by
  have hx : (f_X10_feed s1 s2 s3 s4 s5 x) = some (r, x2) := hx
  have hy : (f_X11_feed s1 s2 s3 s4 s5 y) = some (r, y2) := hy
  refine mS_steps (pc' := 193) (ls' := [.ref (mBIG + 100), .ref 0, .ref 279, .int i]) (st' := [.int (i + (1 : Int32)), .ref (mBIG + 100), .ref 0]) (mem' := (mk x y)) 5 rfl ?_
  refine mS_sld rfl h1 e1 ?_
  refine mS_steps (pc' := 198) (ls' := [.ref (mBIG + 100), .ref 0, .ref 279, .int i]) (st' := [.int (i + (2 : Int32)), .ref (mBIG + 100), .int s1, .ref 0]) (mem' := (mk x y)) 4 rfl ?_
  refine mS_sld rfl h2 e2 ?_
  refine mS_steps (pc' := 203) (ls' := [.ref (mBIG + 100), .ref 0, .ref 279, .int i]) (st' := [.int (i + (3 : Int32)), .ref (mBIG + 100), .int s2, .int s1, .ref 0]) (mem' := (mk x y)) 4 rfl ?_
  refine mS_sld rfl h3 e3 ?_
  refine mS_steps (pc' := 208) (ls' := [.ref (mBIG + 100), .ref 0, .ref 279, .int i]) (st' := [.int (i + (4 : Int32)), .ref (mBIG + 100), .int s3, .int s2, .int s1, .ref 0]) (mem' := (mk x y)) 4 rfl ?_
  refine mS_sld rfl h4 e4 ?_
  refine mS_steps (pc' := 213) (ls' := [.ref (mBIG + 100), .ref 0, .ref 279, .int i]) (st' := [.int (i + (5 : Int32)), .ref (mBIG + 100), .int s4, .int s3, .int s2, .int s1, .ref 0]) (mem' := (mk x y)) 4 rfl ?_
  refine mS_sld rfl h5 e5 ?_
  refine mS_steps (pc' := 214) (ls' := [.ref (mBIG + 100), .ref 0, .ref 279, .int i]) (st' := [.int s5, .int s4, .int s3, .int s2, .int s1, .ref 0]) (mem' := (mk x y)) 0 rfl ?_
  refine mS_call 16 6 [.ref 0, .int s1, .int s2, .int s3, .int s4, .int s5] [] rfl rfl rfl ⟨_, _, _, rfl, rfl⟩ (Nat.le_of_ble_eq_true rfl) (Nat.le_of_ble_eq_true rfl) hx (f_X10_feed_snd s1 s2 s3 s4 s5 x y) ?_
  refine mS_steps (pc' := 222) (ls' := [.ref (mBIG + 100), .ref 0, .ref 279, .int i]) (st' := [.int (i + (1 : Int32)), .ref (mBIG + 100), .ref 279, .int r]) (mem' := (mk x2 y)) 5 rfl ?_
  refine mS_sld rfl h1 e1 ?_
  refine mS_steps (pc' := 227) (ls' := [.ref (mBIG + 100), .ref 0, .ref 279, .int i]) (st' := [.int (i + (2 : Int32)), .ref (mBIG + 100), .int s1, .ref 279, .int r]) (mem' := (mk x2 y)) 4 rfl ?_
  refine mS_sld rfl h2 e2 ?_
  refine mS_steps (pc' := 232) (ls' := [.ref (mBIG + 100), .ref 0, .ref 279, .int i]) (st' := [.int (i + (3 : Int32)), .ref (mBIG + 100), .int s2, .int s1, .ref 279, .int r]) (mem' := (mk x2 y)) 4 rfl ?_
  refine mS_sld rfl h3 e3 ?_
  refine mS_steps (pc' := 237) (ls' := [.ref (mBIG + 100), .ref 0, .ref 279, .int i]) (st' := [.int (i + (4 : Int32)), .ref (mBIG + 100), .int s3, .int s2, .int s1, .ref 279, .int r]) (mem' := (mk x2 y)) 4 rfl ?_
  refine mS_sld rfl h4 e4 ?_
  refine mS_steps (pc' := 242) (ls' := [.ref (mBIG + 100), .ref 0, .ref 279, .int i]) (st' := [.int (i + (5 : Int32)), .ref (mBIG + 100), .int s4, .int s3, .int s2, .int s1, .ref 279, .int r]) (mem' := (mk x2 y)) 4 rfl ?_
  refine mS_sld rfl h5 e5 ?_
  refine mS_steps (pc' := 243) (ls' := [.ref (mBIG + 100), .ref 0, .ref 279, .int i]) (st' := [.int s5, .int s4, .int s3, .int s2, .int s1, .ref 279, .int r]) (mem' := (mk x2 y)) 0 rfl ?_
  refine mS_call 18 6 [.ref 279, .int s1, .int s2, .int s3, .int s4, .int s5] [.int r] rfl rfl rfl ⟨_, _, _, rfl, rfl⟩ (Nat.le_of_ble_eq_true rfl) (Nat.le_of_ble_eq_true rfl) hy (f_X11_feed_snd s1 s2 s3 s4 s5 y x2) ?_
  refine mS_steps (pc' := 246) (ls' := [.ref (mBIG + 100), .ref 0, .ref 279, .int i]) (st' := [.int r, .int r]) (mem' := (mk x2 y2)) 0 rfl ?_
  exact mS_one (pc' := 1345) (ls' := [.ref (mBIG + 100), .ref 0, .ref 279, .int i]) (st' := []) (mem' := (mk x2 y2)) rfl (by decide) (by show some (bif decide (r = r) then _ else _, _, _, _) = _; rw [decide_eq_true rfl]; rfl) k
set_option maxRecDepth 20000 in
set_option maxHeartbeats 2000000 in
theorem law_c1 (hfm : fm = .null ∨ fm = .ref (mBIG + 200)) {i s1 s2 s3 s4 s5 r : Int32} {x x2 : mX} {y y2 : mY} {A : Option (mX × mY)} (h1 : m_in (i + 1) L = true) (e1 : xs (i + 1).toNatClampNeg = s1) (h2 : m_in (i + 2) L = true) (e2 : xs (i + 2).toNatClampNeg = s2) (h3 : m_in (i + 3) L = true) (e3 : xs (i + 3).toNatClampNeg = s3) (h4 : m_in (i + 4) L = true) (e4 : xs (i + 4).toNatClampNeg = s4) (h5 : m_in (i + 5) L = true) (e5 : xs (i + 5).toNatClampNeg = s5) (hx : m_callX 1 s1 s2 s3 s4 s5 x = some (r, x2)) (hy : m_callY 1 s1 s2 s3 s4 s5 y = some (r, y2)) (k : mS fm L xs m_gl pg_L_law 1345 [.ref (mBIG + 100), .ref 0, .ref 279, .int i] [] (mk x2 y2) A) : mS fm L xs m_gl pg_L_law 251 [.ref (mBIG + 100), .ref 0, .ref 279, .int i] [] (mk x y) A := by
  have hx : (f_X10_back s1 x) = some (r, x2) := hx
  have hy : (f_X11_back s1 y) = some (r, y2) := hy
  refine mS_steps (pc' := 256) (ls' := [.ref (mBIG + 100), .ref 0, .ref 279, .int i]) (st' := [.int (i + (1 : Int32)), .ref (mBIG + 100), .ref 0]) (mem' := (mk x y)) 5 rfl ?_
  refine mS_sld rfl h1 e1 ?_
  refine mS_steps (pc' := 257) (ls' := [.ref (mBIG + 100), .ref 0, .ref 279, .int i]) (st' := [.int s1, .ref 0]) (mem' := (mk x y)) 0 rfl ?_
  refine mS_call 19 2 [.ref 0, .int s1] [] rfl rfl rfl ⟨_, _, _, rfl, rfl⟩ (Nat.le_of_ble_eq_true rfl) (Nat.le_of_ble_eq_true rfl) hx (f_X10_back_snd s1 x y) ?_
  refine mS_steps (pc' := 265) (ls' := [.ref (mBIG + 100), .ref 0, .ref 279, .int i]) (st' := [.int (i + (1 : Int32)), .ref (mBIG + 100), .ref 279, .int r]) (mem' := (mk x2 y)) 5 rfl ?_
  refine mS_sld rfl h1 e1 ?_
  refine mS_steps (pc' := 266) (ls' := [.ref (mBIG + 100), .ref 0, .ref 279, .int i]) (st' := [.int s1, .ref 279, .int r]) (mem' := (mk x2 y)) 0 rfl ?_
  refine mS_call 20 2 [.ref 279, .int s1] [.int r] rfl rfl rfl ⟨_, _, _, rfl, rfl⟩ (Nat.le_of_ble_eq_true rfl) (Nat.le_of_ble_eq_true rfl) hy (f_X11_back_snd s1 y x2) ?_
  refine mS_steps (pc' := 269) (ls' := [.ref (mBIG + 100), .ref 0, .ref 279, .int i]) (st' := [.int r, .int r]) (mem' := (mk x2 y2)) 0 rfl ?_
  exact mS_one (pc' := 1345) (ls' := [.ref (mBIG + 100), .ref 0, .ref 279, .int i]) (st' := []) (mem' := (mk x2 y2)) rfl (by decide) (by show some (bif decide (r = r) then _ else _, _, _, _) = _; rw [decide_eq_true rfl]; rfl) k
set_option maxRecDepth 20000 in
set_option maxHeartbeats 2000000 in
theorem law_c2 (hfm : fm = .null ∨ fm = .ref (mBIG + 200)) {i s1 s2 s3 s4 s5 r : Int32} {x x2 : mX} {y y2 : mY} {A : Option (mX × mY)} (h1 : m_in (i + 1) L = true) (e1 : xs (i + 1).toNatClampNeg = s1) (h2 : m_in (i + 2) L = true) (e2 : xs (i + 2).toNatClampNeg = s2) (h3 : m_in (i + 3) L = true) (e3 : xs (i + 3).toNatClampNeg = s3) (h4 : m_in (i + 4) L = true) (e4 : xs (i + 4).toNatClampNeg = s4) (h5 : m_in (i + 5) L = true) (e5 : xs (i + 5).toNatClampNeg = s5) (hx : m_callX 2 s1 s2 s3 s4 s5 x = some (r, x2)) (hy : m_callY 2 s1 s2 s3 s4 s5 y = some (r, y2)) (k : mS fm L xs m_gl pg_L_law 1345 [.ref (mBIG + 100), .ref 0, .ref 279, .int i] [] (mk x2 y2) A) : mS fm L xs m_gl pg_L_law 274 [.ref (mBIG + 100), .ref 0, .ref 279, .int i] [] (mk x y) A := by
  have hx : (f_X10_read x) = some (r, x2) := hx
  have hy : (f_X11_read y) = some (r, y2) := hy
  refine mS_steps (pc' := 275) (ls' := [.ref (mBIG + 100), .ref 0, .ref 279, .int i]) (st' := [.ref 0]) (mem' := (mk x y)) 1 rfl ?_
  refine mS_call 67 1 [.ref 0] [] rfl rfl rfl ⟨_, _, _, rfl, rfl⟩ (Nat.le_of_ble_eq_true rfl) (Nat.le_of_ble_eq_true rfl) hx (f_X10_read_snd hfm  x y) ?_
  refine mS_steps (pc' := 279) (ls' := [.ref (mBIG + 100), .ref 0, .ref 279, .int i]) (st' := [.ref 279, .int r]) (mem' := (mk x2 y)) 1 rfl ?_
  refine mS_call 91 1 [.ref 279] [.int r] rfl rfl rfl ⟨_, _, _, rfl, rfl⟩ (Nat.le_of_ble_eq_true rfl) (Nat.le_of_ble_eq_true rfl) hy (f_X11_read_snd  y x2) ?_
  refine mS_steps (pc' := 282) (ls' := [.ref (mBIG + 100), .ref 0, .ref 279, .int i]) (st' := [.int r, .int r]) (mem' := (mk x2 y2)) 0 rfl ?_
  exact mS_one (pc' := 1345) (ls' := [.ref (mBIG + 100), .ref 0, .ref 279, .int i]) (st' := []) (mem' := (mk x2 y2)) rfl (by decide) (by show some (bif decide (r = r) then _ else _, _, _, _) = _; rw [decide_eq_true rfl]; rfl) k
set_option maxRecDepth 20000 in
set_option maxHeartbeats 2000000 in
theorem law_c3 (hfm : fm = .null ∨ fm = .ref (mBIG + 200)) {i s1 s2 s3 s4 s5 r : Int32} {x x2 : mX} {y y2 : mY} {A : Option (mX × mY)} (h1 : m_in (i + 1) L = true) (e1 : xs (i + 1).toNatClampNeg = s1) (h2 : m_in (i + 2) L = true) (e2 : xs (i + 2).toNatClampNeg = s2) (h3 : m_in (i + 3) L = true) (e3 : xs (i + 3).toNatClampNeg = s3) (h4 : m_in (i + 4) L = true) (e4 : xs (i + 4).toNatClampNeg = s4) (h5 : m_in (i + 5) L = true) (e5 : xs (i + 5).toNatClampNeg = s5) (hx : m_callX 3 s1 s2 s3 s4 s5 x = some (r, x2)) (hy : m_callY 3 s1 s2 s3 s4 s5 y = some (r, y2)) (k : mS fm L xs m_gl pg_L_law 1345 [.ref (mBIG + 100), .ref 0, .ref 279, .int i] [] (mk x2 y2) A) : mS fm L xs m_gl pg_L_law 287 [.ref (mBIG + 100), .ref 0, .ref 279, .int i] [] (mk x y) A := by
  have hx : (some (f_X10_place x, x)) = some (r, x2) := hx
  have ehx := Option.some.inj hx
  have hx := congrArg some (Prod.mk.inj ehx).1
  rw [← (Prod.mk.inj ehx).2] at k
  have hy : (some (f_X11_place y, y)) = some (r, y2) := hy
  have ehy := Option.some.inj hy
  have hy := congrArg some (Prod.mk.inj ehy).1
  rw [← (Prod.mk.inj ehy).2] at k
  refine mS_steps (pc' := 288) (ls' := [.ref (mBIG + 100), .ref 0, .ref 279, .int i]) (st' := [.ref 0]) (mem' := (mk x y)) 1 rfl ?_
  refine mS_call (q := r) 92 1 [.ref 0] [] rfl rfl rfl ⟨_, _, _, rfl, rfl⟩ (Nat.le_of_ble_eq_true rfl) (Nat.le_of_ble_eq_true rfl) hx (f_X10_place_snd  x y) ?_
  refine mS_steps (pc' := 292) (ls' := [.ref (mBIG + 100), .ref 0, .ref 279, .int i]) (st' := [.ref 279, .int r]) (mem' := (mk x y)) 1 rfl ?_
  refine mS_call (q := r) 93 1 [.ref 279] [.int r] rfl rfl rfl ⟨_, _, _, rfl, rfl⟩ (Nat.le_of_ble_eq_true rfl) (Nat.le_of_ble_eq_true rfl) hy (f_X11_place_snd  y x) ?_
  refine mS_steps (pc' := 295) (ls' := [.ref (mBIG + 100), .ref 0, .ref 279, .int i]) (st' := [.int r, .int r]) (mem' := (mk x y)) 0 rfl ?_
  exact mS_one (pc' := 1345) (ls' := [.ref (mBIG + 100), .ref 0, .ref 279, .int i]) (st' := []) (mem' := (mk x y)) rfl (by decide) (by show some (bif decide (r = r) then _ else _, _, _, _) = _; rw [decide_eq_true rfl]; rfl) k
set_option maxRecDepth 20000 in
set_option maxHeartbeats 2000000 in
theorem law_c4 (hfm : fm = .null ∨ fm = .ref (mBIG + 200)) {i s1 s2 s3 s4 s5 r : Int32} {x x2 : mX} {y y2 : mY} {A : Option (mX × mY)} (h1 : m_in (i + 1) L = true) (e1 : xs (i + 1).toNatClampNeg = s1) (h2 : m_in (i + 2) L = true) (e2 : xs (i + 2).toNatClampNeg = s2) (h3 : m_in (i + 3) L = true) (e3 : xs (i + 3).toNatClampNeg = s3) (h4 : m_in (i + 4) L = true) (e4 : xs (i + 4).toNatClampNeg = s4) (h5 : m_in (i + 5) L = true) (e5 : xs (i + 5).toNatClampNeg = s5) (hx : m_callX 4 s1 s2 s3 s4 s5 x = some (r, x2)) (hy : m_callY 4 s1 s2 s3 s4 s5 y = some (r, y2)) (k : mS fm L xs m_gl pg_L_law 1345 [.ref (mBIG + 100), .ref 0, .ref 279, .int i] [] (mk x2 y2) A) : mS fm L xs m_gl pg_L_law 300 [.ref (mBIG + 100), .ref 0, .ref 279, .int i] [] (mk x y) A := by
  by_cases hb : s2 = 0
  · have hx : (f_X10_join s1 (if s2 = 0 then 0 else 1) x) = some (r, x2) := hx
    rw [if_pos hb] at hx
    have hy : (f_X11_join s1 (if s2 = 0 then 0 else 1) y) = some (r, y2) := hy
    rw [if_pos hb] at hy
    refine mS_steps (pc' := 305) (ls' := [.ref (mBIG + 100), .ref 0, .ref 279, .int i]) (st' := [.int (i + (1 : Int32)), .ref (mBIG + 100), .ref 0]) (mem' := (mk x y)) 5 rfl ?_
    refine mS_sld rfl h1 e1 ?_
    refine mS_steps (pc' := 310) (ls' := [.ref (mBIG + 100), .ref 0, .ref 279, .int i]) (st' := [.int (i + (2 : Int32)), .ref (mBIG + 100), .int s1, .ref 0]) (mem' := (mk x y)) 4 rfl ?_
    refine mS_sld rfl h2 e2 ?_
    refine mS_steps (pc' := 311) (ls' := [.ref (mBIG + 100), .ref 0, .ref 279, .int i]) (st' := [.int s2, .int s1, .ref 0]) (mem' := (mk x y)) 0 rfl ?_
    refine mS_one (pc' := 318) (ls' := [.ref (mBIG + 100), .ref 0, .ref 279, .int i]) (st' := [.int s1, .ref 0]) (mem' := (mk x y)) rfl (by decide) (by show some (bif decide (s2 = 0) then _ else _, _, _, _) = _; rw [decide_eq_true hb]; rfl) ?_
    refine mS_steps (pc' := 319) (ls' := [.ref (mBIG + 100), .ref 0, .ref 279, .int i]) (st' := [.int (0 : Int32), .int s1, .ref 0]) (mem' := (mk x y)) 1 rfl ?_
    refine mS_call 96 3 [.ref 0, .int s1, .int (0 : Int32)] [] rfl rfl rfl ⟨_, _, _, rfl, rfl⟩ (Nat.le_of_ble_eq_true rfl) (Nat.le_of_ble_eq_true rfl) hx (f_X10_join_snd s1 (0 : Int32) x y) ?_
    refine mS_steps (pc' := 327) (ls' := [.ref (mBIG + 100), .ref 0, .ref 279, .int i]) (st' := [.int (i + (1 : Int32)), .ref (mBIG + 100), .ref 279, .int r]) (mem' := (mk x2 y)) 5 rfl ?_
    refine mS_sld rfl h1 e1 ?_
    refine mS_steps (pc' := 332) (ls' := [.ref (mBIG + 100), .ref 0, .ref 279, .int i]) (st' := [.int (i + (2 : Int32)), .ref (mBIG + 100), .int s1, .ref 279, .int r]) (mem' := (mk x2 y)) 4 rfl ?_
    refine mS_sld rfl h2 e2 ?_
    refine mS_steps (pc' := 333) (ls' := [.ref (mBIG + 100), .ref 0, .ref 279, .int i]) (st' := [.int s2, .int s1, .ref 279, .int r]) (mem' := (mk x2 y)) 0 rfl ?_
    refine mS_one (pc' := 340) (ls' := [.ref (mBIG + 100), .ref 0, .ref 279, .int i]) (st' := [.int s1, .ref 279, .int r]) (mem' := (mk x2 y)) rfl (by decide) (by show some (bif decide (s2 = 0) then _ else _, _, _, _) = _; rw [decide_eq_true hb]; rfl) ?_
    refine mS_steps (pc' := 341) (ls' := [.ref (mBIG + 100), .ref 0, .ref 279, .int i]) (st' := [.int (0 : Int32), .int s1, .ref 279, .int r]) (mem' := (mk x2 y)) 1 rfl ?_
    refine mS_call 99 3 [.ref 279, .int s1, .int (0 : Int32)] [.int r] rfl rfl rfl ⟨_, _, _, rfl, rfl⟩ (Nat.le_of_ble_eq_true rfl) (Nat.le_of_ble_eq_true rfl) hy (f_X11_join_snd s1 (0 : Int32) y x2) ?_
    refine mS_steps (pc' := 344) (ls' := [.ref (mBIG + 100), .ref 0, .ref 279, .int i]) (st' := [.int r, .int r]) (mem' := (mk x2 y2)) 0 rfl ?_
    exact mS_one (pc' := 1345) (ls' := [.ref (mBIG + 100), .ref 0, .ref 279, .int i]) (st' := []) (mem' := (mk x2 y2)) rfl (by decide) (by show some (bif decide (r = r) then _ else _, _, _, _) = _; rw [decide_eq_true rfl]; rfl) k
  · have hx : (f_X10_join s1 (if s2 = 0 then 0 else 1) x) = some (r, x2) := hx
    rw [if_neg hb] at hx
    have hy : (f_X11_join s1 (if s2 = 0 then 0 else 1) y) = some (r, y2) := hy
    rw [if_neg hb] at hy
    refine mS_steps (pc' := 305) (ls' := [.ref (mBIG + 100), .ref 0, .ref 279, .int i]) (st' := [.int (i + (1 : Int32)), .ref (mBIG + 100), .ref 0]) (mem' := (mk x y)) 5 rfl ?_
    refine mS_sld rfl h1 e1 ?_
    refine mS_steps (pc' := 310) (ls' := [.ref (mBIG + 100), .ref 0, .ref 279, .int i]) (st' := [.int (i + (2 : Int32)), .ref (mBIG + 100), .int s1, .ref 0]) (mem' := (mk x y)) 4 rfl ?_
    refine mS_sld rfl h2 e2 ?_
    refine mS_steps (pc' := 311) (ls' := [.ref (mBIG + 100), .ref 0, .ref 279, .int i]) (st' := [.int s2, .int s1, .ref 0]) (mem' := (mk x y)) 0 rfl ?_
    refine mS_one (pc' := 314) (ls' := [.ref (mBIG + 100), .ref 0, .ref 279, .int i]) (st' := [.int s1, .ref 0]) (mem' := (mk x y)) rfl (by decide) (by show some (bif decide (s2 = 0) then _ else _, _, _, _) = _; rw [decide_eq_false hb]; rfl) ?_
    refine mS_steps (pc' := 319) (ls' := [.ref (mBIG + 100), .ref 0, .ref 279, .int i]) (st' := [.int (1 : Int32), .int s1, .ref 0]) (mem' := (mk x y)) 2 rfl ?_
    refine mS_call 96 3 [.ref 0, .int s1, .int (1 : Int32)] [] rfl rfl rfl ⟨_, _, _, rfl, rfl⟩ (Nat.le_of_ble_eq_true rfl) (Nat.le_of_ble_eq_true rfl) hx (f_X10_join_snd s1 (1 : Int32) x y) ?_
    refine mS_steps (pc' := 327) (ls' := [.ref (mBIG + 100), .ref 0, .ref 279, .int i]) (st' := [.int (i + (1 : Int32)), .ref (mBIG + 100), .ref 279, .int r]) (mem' := (mk x2 y)) 5 rfl ?_
    refine mS_sld rfl h1 e1 ?_
    refine mS_steps (pc' := 332) (ls' := [.ref (mBIG + 100), .ref 0, .ref 279, .int i]) (st' := [.int (i + (2 : Int32)), .ref (mBIG + 100), .int s1, .ref 279, .int r]) (mem' := (mk x2 y)) 4 rfl ?_
    refine mS_sld rfl h2 e2 ?_
    refine mS_steps (pc' := 333) (ls' := [.ref (mBIG + 100), .ref 0, .ref 279, .int i]) (st' := [.int s2, .int s1, .ref 279, .int r]) (mem' := (mk x2 y)) 0 rfl ?_
    refine mS_one (pc' := 336) (ls' := [.ref (mBIG + 100), .ref 0, .ref 279, .int i]) (st' := [.int s1, .ref 279, .int r]) (mem' := (mk x2 y)) rfl (by decide) (by show some (bif decide (s2 = 0) then _ else _, _, _, _) = _; rw [decide_eq_false hb]; rfl) ?_
    refine mS_steps (pc' := 341) (ls' := [.ref (mBIG + 100), .ref 0, .ref 279, .int i]) (st' := [.int (1 : Int32), .int s1, .ref 279, .int r]) (mem' := (mk x2 y)) 2 rfl ?_
    refine mS_call 99 3 [.ref 279, .int s1, .int (1 : Int32)] [.int r] rfl rfl rfl ⟨_, _, _, rfl, rfl⟩ (Nat.le_of_ble_eq_true rfl) (Nat.le_of_ble_eq_true rfl) hy (f_X11_join_snd s1 (1 : Int32) y x2) ?_
    refine mS_steps (pc' := 344) (ls' := [.ref (mBIG + 100), .ref 0, .ref 279, .int i]) (st' := [.int r, .int r]) (mem' := (mk x2 y2)) 0 rfl ?_
    exact mS_one (pc' := 1345) (ls' := [.ref (mBIG + 100), .ref 0, .ref 279, .int i]) (st' := []) (mem' := (mk x2 y2)) rfl (by decide) (by show some (bif decide (r = r) then _ else _, _, _, _) = _; rw [decide_eq_true rfl]; rfl) k
set_option maxRecDepth 20000 in
set_option maxHeartbeats 2000000 in
theorem law_c5 (hfm : fm = .null ∨ fm = .ref (mBIG + 200)) {i s1 s2 s3 s4 s5 r : Int32} {x x2 : mX} {y y2 : mY} {A : Option (mX × mY)} (h1 : m_in (i + 1) L = true) (e1 : xs (i + 1).toNatClampNeg = s1) (h2 : m_in (i + 2) L = true) (e2 : xs (i + 2).toNatClampNeg = s2) (h3 : m_in (i + 3) L = true) (e3 : xs (i + 3).toNatClampNeg = s3) (h4 : m_in (i + 4) L = true) (e4 : xs (i + 4).toNatClampNeg = s4) (h5 : m_in (i + 5) L = true) (e5 : xs (i + 5).toNatClampNeg = s5) (hx : m_callX 5 s1 s2 s3 s4 s5 x = some (r, x2)) (hy : m_callY 5 s1 s2 s3 s4 s5 y = some (r, y2)) (k : mS fm L xs m_gl pg_L_law 1345 [.ref (mBIG + 100), .ref 0, .ref 279, .int i] [] (mk x2 y2) A) : mS fm L xs m_gl pg_L_law 349 [.ref (mBIG + 100), .ref 0, .ref 279, .int i] [] (mk x y) A := by
  have hx : (f_X10_cost s1 s2 x) = some (r, x2) := hx
  have hy : (f_X11_cost s1 s2 y) = some (r, y2) := hy
  refine mS_steps (pc' := 354) (ls' := [.ref (mBIG + 100), .ref 0, .ref 279, .int i]) (st' := [.int (i + (1 : Int32)), .ref (mBIG + 100), .ref 0]) (mem' := (mk x y)) 5 rfl ?_
  refine mS_sld rfl h1 e1 ?_
  refine mS_steps (pc' := 359) (ls' := [.ref (mBIG + 100), .ref 0, .ref 279, .int i]) (st' := [.int (i + (2 : Int32)), .ref (mBIG + 100), .int s1, .ref 0]) (mem' := (mk x y)) 4 rfl ?_
  refine mS_sld rfl h2 e2 ?_
  refine mS_steps (pc' := 360) (ls' := [.ref (mBIG + 100), .ref 0, .ref 279, .int i]) (st' := [.int s2, .int s1, .ref 0]) (mem' := (mk x y)) 0 rfl ?_
  refine mS_call 100 3 [.ref 0, .int s1, .int s2] [] rfl rfl rfl ⟨_, _, _, rfl, rfl⟩ (Nat.le_of_ble_eq_true rfl) (Nat.le_of_ble_eq_true rfl) hx (f_X10_cost_snd s1 s2 x y) ?_
  refine mS_steps (pc' := 368) (ls' := [.ref (mBIG + 100), .ref 0, .ref 279, .int i]) (st' := [.int (i + (1 : Int32)), .ref (mBIG + 100), .ref 279, .int r]) (mem' := (mk x2 y)) 5 rfl ?_
  refine mS_sld rfl h1 e1 ?_
  refine mS_steps (pc' := 373) (ls' := [.ref (mBIG + 100), .ref 0, .ref 279, .int i]) (st' := [.int (i + (2 : Int32)), .ref (mBIG + 100), .int s1, .ref 279, .int r]) (mem' := (mk x2 y)) 4 rfl ?_
  refine mS_sld rfl h2 e2 ?_
  refine mS_steps (pc' := 374) (ls' := [.ref (mBIG + 100), .ref 0, .ref 279, .int i]) (st' := [.int s2, .int s1, .ref 279, .int r]) (mem' := (mk x2 y)) 0 rfl ?_
  refine mS_call 101 3 [.ref 279, .int s1, .int s2] [.int r] rfl rfl rfl ⟨_, _, _, rfl, rfl⟩ (Nat.le_of_ble_eq_true rfl) (Nat.le_of_ble_eq_true rfl) hy (f_X11_cost_snd s1 s2 y x2) ?_
  refine mS_steps (pc' := 377) (ls' := [.ref (mBIG + 100), .ref 0, .ref 279, .int i]) (st' := [.int r, .int r]) (mem' := (mk x2 y2)) 0 rfl ?_
  exact mS_one (pc' := 1345) (ls' := [.ref (mBIG + 100), .ref 0, .ref 279, .int i]) (st' := []) (mem' := (mk x2 y2)) rfl (by decide) (by show some (bif decide (r = r) then _ else _, _, _, _) = _; rw [decide_eq_true rfl]; rfl) k
set_option maxRecDepth 20000 in
set_option maxHeartbeats 2000000 in
theorem law_c6 (hfm : fm = .null ∨ fm = .ref (mBIG + 200)) {i s1 s2 s3 s4 s5 r : Int32} {x x2 : mX} {y y2 : mY} {A : Option (mX × mY)} (h1 : m_in (i + 1) L = true) (e1 : xs (i + 1).toNatClampNeg = s1) (h2 : m_in (i + 2) L = true) (e2 : xs (i + 2).toNatClampNeg = s2) (h3 : m_in (i + 3) L = true) (e3 : xs (i + 3).toNatClampNeg = s3) (h4 : m_in (i + 4) L = true) (e4 : xs (i + 4).toNatClampNeg = s4) (h5 : m_in (i + 5) L = true) (e5 : xs (i + 5).toNatClampNeg = s5) (hx : m_callX 6 s1 s2 s3 s4 s5 x = some (r, x2)) (hy : m_callY 6 s1 s2 s3 s4 s5 y = some (r, y2)) (k : mS fm L xs m_gl pg_L_law 1345 [.ref (mBIG + 100), .ref 0, .ref 279, .int i] [] (mk x2 y2) A) : mS fm L xs m_gl pg_L_law 382 [.ref (mBIG + 100), .ref 0, .ref 279, .int i] [] (mk x y) A := by
  by_cases hb : s2 = 0
  · have hx : (f_X10_power s1 (if s2 = 0 then 0 else 1) x) = some (r, x2) := hx
    rw [if_pos hb] at hx
    have hy : (f_X11_power s1 (if s2 = 0 then 0 else 1) y) = some (r, y2) := hy
    rw [if_pos hb] at hy
    refine mS_steps (pc' := 387) (ls' := [.ref (mBIG + 100), .ref 0, .ref 279, .int i]) (st' := [.int (i + (1 : Int32)), .ref (mBIG + 100), .ref 0]) (mem' := (mk x y)) 5 rfl ?_
    refine mS_sld rfl h1 e1 ?_
    refine mS_steps (pc' := 392) (ls' := [.ref (mBIG + 100), .ref 0, .ref 279, .int i]) (st' := [.int (i + (2 : Int32)), .ref (mBIG + 100), .int s1, .ref 0]) (mem' := (mk x y)) 4 rfl ?_
    refine mS_sld rfl h2 e2 ?_
    refine mS_steps (pc' := 393) (ls' := [.ref (mBIG + 100), .ref 0, .ref 279, .int i]) (st' := [.int s2, .int s1, .ref 0]) (mem' := (mk x y)) 0 rfl ?_
    refine mS_one (pc' := 400) (ls' := [.ref (mBIG + 100), .ref 0, .ref 279, .int i]) (st' := [.int s1, .ref 0]) (mem' := (mk x y)) rfl (by decide) (by show some (bif decide (s2 = 0) then _ else _, _, _, _) = _; rw [decide_eq_true hb]; rfl) ?_
    refine mS_steps (pc' := 401) (ls' := [.ref (mBIG + 100), .ref 0, .ref 279, .int i]) (st' := [.int (0 : Int32), .int s1, .ref 0]) (mem' := (mk x y)) 1 rfl ?_
    refine mS_call 103 3 [.ref 0, .int s1, .int (0 : Int32)] [] rfl rfl rfl ⟨_, _, _, rfl, rfl⟩ (Nat.le_of_ble_eq_true rfl) (Nat.le_of_ble_eq_true rfl) hx (f_X10_power_snd s1 (0 : Int32) x y) ?_
    refine mS_steps (pc' := 409) (ls' := [.ref (mBIG + 100), .ref 0, .ref 279, .int i]) (st' := [.int (i + (1 : Int32)), .ref (mBIG + 100), .ref 279, .int r]) (mem' := (mk x2 y)) 5 rfl ?_
    refine mS_sld rfl h1 e1 ?_
    refine mS_steps (pc' := 414) (ls' := [.ref (mBIG + 100), .ref 0, .ref 279, .int i]) (st' := [.int (i + (2 : Int32)), .ref (mBIG + 100), .int s1, .ref 279, .int r]) (mem' := (mk x2 y)) 4 rfl ?_
    refine mS_sld rfl h2 e2 ?_
    refine mS_steps (pc' := 415) (ls' := [.ref (mBIG + 100), .ref 0, .ref 279, .int i]) (st' := [.int s2, .int s1, .ref 279, .int r]) (mem' := (mk x2 y)) 0 rfl ?_
    refine mS_one (pc' := 422) (ls' := [.ref (mBIG + 100), .ref 0, .ref 279, .int i]) (st' := [.int s1, .ref 279, .int r]) (mem' := (mk x2 y)) rfl (by decide) (by show some (bif decide (s2 = 0) then _ else _, _, _, _) = _; rw [decide_eq_true hb]; rfl) ?_
    refine mS_steps (pc' := 423) (ls' := [.ref (mBIG + 100), .ref 0, .ref 279, .int i]) (st' := [.int (0 : Int32), .int s1, .ref 279, .int r]) (mem' := (mk x2 y)) 1 rfl ?_
    refine mS_call 105 3 [.ref 279, .int s1, .int (0 : Int32)] [.int r] rfl rfl rfl ⟨_, _, _, rfl, rfl⟩ (Nat.le_of_ble_eq_true rfl) (Nat.le_of_ble_eq_true rfl) hy (f_X11_power_snd s1 (0 : Int32) y x2) ?_
    refine mS_steps (pc' := 426) (ls' := [.ref (mBIG + 100), .ref 0, .ref 279, .int i]) (st' := [.int r, .int r]) (mem' := (mk x2 y2)) 0 rfl ?_
    exact mS_one (pc' := 1345) (ls' := [.ref (mBIG + 100), .ref 0, .ref 279, .int i]) (st' := []) (mem' := (mk x2 y2)) rfl (by decide) (by show some (bif decide (r = r) then _ else _, _, _, _) = _; rw [decide_eq_true rfl]; rfl) k
  · have hx : (f_X10_power s1 (if s2 = 0 then 0 else 1) x) = some (r, x2) := hx
    rw [if_neg hb] at hx
    have hy : (f_X11_power s1 (if s2 = 0 then 0 else 1) y) = some (r, y2) := hy
    rw [if_neg hb] at hy
    refine mS_steps (pc' := 387) (ls' := [.ref (mBIG + 100), .ref 0, .ref 279, .int i]) (st' := [.int (i + (1 : Int32)), .ref (mBIG + 100), .ref 0]) (mem' := (mk x y)) 5 rfl ?_
    refine mS_sld rfl h1 e1 ?_
    refine mS_steps (pc' := 392) (ls' := [.ref (mBIG + 100), .ref 0, .ref 279, .int i]) (st' := [.int (i + (2 : Int32)), .ref (mBIG + 100), .int s1, .ref 0]) (mem' := (mk x y)) 4 rfl ?_
    refine mS_sld rfl h2 e2 ?_
    refine mS_steps (pc' := 393) (ls' := [.ref (mBIG + 100), .ref 0, .ref 279, .int i]) (st' := [.int s2, .int s1, .ref 0]) (mem' := (mk x y)) 0 rfl ?_
    refine mS_one (pc' := 396) (ls' := [.ref (mBIG + 100), .ref 0, .ref 279, .int i]) (st' := [.int s1, .ref 0]) (mem' := (mk x y)) rfl (by decide) (by show some (bif decide (s2 = 0) then _ else _, _, _, _) = _; rw [decide_eq_false hb]; rfl) ?_
    refine mS_steps (pc' := 401) (ls' := [.ref (mBIG + 100), .ref 0, .ref 279, .int i]) (st' := [.int (1 : Int32), .int s1, .ref 0]) (mem' := (mk x y)) 2 rfl ?_
    refine mS_call 103 3 [.ref 0, .int s1, .int (1 : Int32)] [] rfl rfl rfl ⟨_, _, _, rfl, rfl⟩ (Nat.le_of_ble_eq_true rfl) (Nat.le_of_ble_eq_true rfl) hx (f_X10_power_snd s1 (1 : Int32) x y) ?_
    refine mS_steps (pc' := 409) (ls' := [.ref (mBIG + 100), .ref 0, .ref 279, .int i]) (st' := [.int (i + (1 : Int32)), .ref (mBIG + 100), .ref 279, .int r]) (mem' := (mk x2 y)) 5 rfl ?_
    refine mS_sld rfl h1 e1 ?_
    refine mS_steps (pc' := 414) (ls' := [.ref (mBIG + 100), .ref 0, .ref 279, .int i]) (st' := [.int (i + (2 : Int32)), .ref (mBIG + 100), .int s1, .ref 279, .int r]) (mem' := (mk x2 y)) 4 rfl ?_
    refine mS_sld rfl h2 e2 ?_
    refine mS_steps (pc' := 415) (ls' := [.ref (mBIG + 100), .ref 0, .ref 279, .int i]) (st' := [.int s2, .int s1, .ref 279, .int r]) (mem' := (mk x2 y)) 0 rfl ?_
    refine mS_one (pc' := 418) (ls' := [.ref (mBIG + 100), .ref 0, .ref 279, .int i]) (st' := [.int s1, .ref 279, .int r]) (mem' := (mk x2 y)) rfl (by decide) (by show some (bif decide (s2 = 0) then _ else _, _, _, _) = _; rw [decide_eq_false hb]; rfl) ?_
    refine mS_steps (pc' := 423) (ls' := [.ref (mBIG + 100), .ref 0, .ref 279, .int i]) (st' := [.int (1 : Int32), .int s1, .ref 279, .int r]) (mem' := (mk x2 y)) 2 rfl ?_
    refine mS_call 105 3 [.ref 279, .int s1, .int (1 : Int32)] [.int r] rfl rfl rfl ⟨_, _, _, rfl, rfl⟩ (Nat.le_of_ble_eq_true rfl) (Nat.le_of_ble_eq_true rfl) hy (f_X11_power_snd s1 (1 : Int32) y x2) ?_
    refine mS_steps (pc' := 426) (ls' := [.ref (mBIG + 100), .ref 0, .ref 279, .int i]) (st' := [.int r, .int r]) (mem' := (mk x2 y2)) 0 rfl ?_
    exact mS_one (pc' := 1345) (ls' := [.ref (mBIG + 100), .ref 0, .ref 279, .int i]) (st' := []) (mem' := (mk x2 y2)) rfl (by decide) (by show some (bif decide (r = r) then _ else _, _, _, _) = _; rw [decide_eq_true rfl]; rfl) k
set_option maxRecDepth 20000 in
set_option maxHeartbeats 2000000 in
theorem law_c7 (hfm : fm = .null ∨ fm = .ref (mBIG + 200)) {i s1 s2 s3 s4 s5 r : Int32} {x x2 : mX} {y y2 : mY} {A : Option (mX × mY)} (h1 : m_in (i + 1) L = true) (e1 : xs (i + 1).toNatClampNeg = s1) (h2 : m_in (i + 2) L = true) (e2 : xs (i + 2).toNatClampNeg = s2) (h3 : m_in (i + 3) L = true) (e3 : xs (i + 3).toNatClampNeg = s3) (h4 : m_in (i + 4) L = true) (e4 : xs (i + 4).toNatClampNeg = s4) (h5 : m_in (i + 5) L = true) (e5 : xs (i + 5).toNatClampNeg = s5) (hx : m_callX 7 s1 s2 s3 s4 s5 x = some (r, x2)) (hy : m_callY 7 s1 s2 s3 s4 s5 y = some (r, y2)) (k : mS fm L xs m_gl pg_L_law 1345 [.ref (mBIG + 100), .ref 0, .ref 279, .int i] [] (mk x2 y2) A) : mS fm L xs m_gl pg_L_law 431 [.ref (mBIG + 100), .ref 0, .ref 279, .int i] [] (mk x y) A := by
  have hx : (f_X10_lay s1 s2 s3 x) = some (r, x2) := hx
  have hy : (f_X11_lay s1 s2 s3 y) = some (r, y2) := hy
  refine mS_steps (pc' := 436) (ls' := [.ref (mBIG + 100), .ref 0, .ref 279, .int i]) (st' := [.int (i + (1 : Int32)), .ref (mBIG + 100), .ref 0]) (mem' := (mk x y)) 5 rfl ?_
  refine mS_sld rfl h1 e1 ?_
  refine mS_steps (pc' := 441) (ls' := [.ref (mBIG + 100), .ref 0, .ref 279, .int i]) (st' := [.int (i + (2 : Int32)), .ref (mBIG + 100), .int s1, .ref 0]) (mem' := (mk x y)) 4 rfl ?_
  refine mS_sld rfl h2 e2 ?_
  refine mS_steps (pc' := 446) (ls' := [.ref (mBIG + 100), .ref 0, .ref 279, .int i]) (st' := [.int (i + (3 : Int32)), .ref (mBIG + 100), .int s2, .int s1, .ref 0]) (mem' := (mk x y)) 4 rfl ?_
  refine mS_sld rfl h3 e3 ?_
  refine mS_steps (pc' := 447) (ls' := [.ref (mBIG + 100), .ref 0, .ref 279, .int i]) (st' := [.int s3, .int s2, .int s1, .ref 0]) (mem' := (mk x y)) 0 rfl ?_
  refine mS_call 106 4 [.ref 0, .int s1, .int s2, .int s3] [] rfl rfl rfl ⟨_, _, _, rfl, rfl⟩ (Nat.le_of_ble_eq_true rfl) (Nat.le_of_ble_eq_true rfl) hx (f_X10_lay_snd s1 s2 s3 x y) ?_
  refine mS_steps (pc' := 455) (ls' := [.ref (mBIG + 100), .ref 0, .ref 279, .int i]) (st' := [.int (i + (1 : Int32)), .ref (mBIG + 100), .ref 279, .int r]) (mem' := (mk x2 y)) 5 rfl ?_
  refine mS_sld rfl h1 e1 ?_
  refine mS_steps (pc' := 460) (ls' := [.ref (mBIG + 100), .ref 0, .ref 279, .int i]) (st' := [.int (i + (2 : Int32)), .ref (mBIG + 100), .int s1, .ref 279, .int r]) (mem' := (mk x2 y)) 4 rfl ?_
  refine mS_sld rfl h2 e2 ?_
  refine mS_steps (pc' := 465) (ls' := [.ref (mBIG + 100), .ref 0, .ref 279, .int i]) (st' := [.int (i + (3 : Int32)), .ref (mBIG + 100), .int s2, .int s1, .ref 279, .int r]) (mem' := (mk x2 y)) 4 rfl ?_
  refine mS_sld rfl h3 e3 ?_
  refine mS_steps (pc' := 466) (ls' := [.ref (mBIG + 100), .ref 0, .ref 279, .int i]) (st' := [.int s3, .int s2, .int s1, .ref 279, .int r]) (mem' := (mk x2 y)) 0 rfl ?_
  refine mS_call 108 4 [.ref 279, .int s1, .int s2, .int s3] [.int r] rfl rfl rfl ⟨_, _, _, rfl, rfl⟩ (Nat.le_of_ble_eq_true rfl) (Nat.le_of_ble_eq_true rfl) hy (f_X11_lay_snd s1 s2 s3 y x2) ?_
  refine mS_steps (pc' := 469) (ls' := [.ref (mBIG + 100), .ref 0, .ref 279, .int i]) (st' := [.int r, .int r]) (mem' := (mk x2 y2)) 0 rfl ?_
  exact mS_one (pc' := 1345) (ls' := [.ref (mBIG + 100), .ref 0, .ref 279, .int i]) (st' := []) (mem' := (mk x2 y2)) rfl (by decide) (by show some (bif decide (r = r) then _ else _, _, _, _) = _; rw [decide_eq_true rfl]; rfl) k
set_option maxRecDepth 20000 in
set_option maxHeartbeats 2000000 in
theorem law_c8 (hfm : fm = .null ∨ fm = .ref (mBIG + 200)) {i s1 s2 s3 s4 s5 r : Int32} {x x2 : mX} {y y2 : mY} {A : Option (mX × mY)} (h1 : m_in (i + 1) L = true) (e1 : xs (i + 1).toNatClampNeg = s1) (h2 : m_in (i + 2) L = true) (e2 : xs (i + 2).toNatClampNeg = s2) (h3 : m_in (i + 3) L = true) (e3 : xs (i + 3).toNatClampNeg = s3) (h4 : m_in (i + 4) L = true) (e4 : xs (i + 4).toNatClampNeg = s4) (h5 : m_in (i + 5) L = true) (e5 : xs (i + 5).toNatClampNeg = s5) (hx : m_callX 8 s1 s2 s3 s4 s5 x = some (r, x2)) (hy : m_callY 8 s1 s2 s3 s4 s5 y = some (r, y2)) (k : mS fm L xs m_gl pg_L_law 1345 [.ref (mBIG + 100), .ref 0, .ref 279, .int i] [] (mk x2 y2) A) : mS fm L xs m_gl pg_L_law 474 [.ref (mBIG + 100), .ref 0, .ref 279, .int i] [] (mk x y) A := by
  have hx : (f_X10_learn x) = some (r, x2) := hx
  have hy : (f_X11_learn y) = some (r, y2) := hy
  refine mS_steps (pc' := 475) (ls' := [.ref (mBIG + 100), .ref 0, .ref 279, .int i]) (st' := [.ref 0]) (mem' := (mk x y)) 1 rfl ?_
  refine mS_call 109 1 [.ref 0] [] rfl rfl rfl ⟨_, _, _, rfl, rfl⟩ (Nat.le_of_ble_eq_true rfl) (Nat.le_of_ble_eq_true rfl) hx (f_X10_learn_snd  x y) ?_
  refine mS_steps (pc' := 479) (ls' := [.ref (mBIG + 100), .ref 0, .ref 279, .int i]) (st' := [.ref 279, .int r]) (mem' := (mk x2 y)) 1 rfl ?_
  refine mS_call 110 1 [.ref 279] [.int r] rfl rfl rfl ⟨_, _, _, rfl, rfl⟩ (Nat.le_of_ble_eq_true rfl) (Nat.le_of_ble_eq_true rfl) hy (f_X11_learn_snd  y x2) ?_
  refine mS_steps (pc' := 482) (ls' := [.ref (mBIG + 100), .ref 0, .ref 279, .int i]) (st' := [.int r, .int r]) (mem' := (mk x2 y2)) 0 rfl ?_
  exact mS_one (pc' := 1345) (ls' := [.ref (mBIG + 100), .ref 0, .ref 279, .int i]) (st' := []) (mem' := (mk x2 y2)) rfl (by decide) (by show some (bif decide (r = r) then _ else _, _, _, _) = _; rw [decide_eq_true rfl]; rfl) k
set_option maxRecDepth 20000 in
set_option maxHeartbeats 2000000 in
theorem law_c9 (hfm : fm = .null ∨ fm = .ref (mBIG + 200)) {i s1 s2 s3 s4 s5 r : Int32} {x x2 : mX} {y y2 : mY} {A : Option (mX × mY)} (h1 : m_in (i + 1) L = true) (e1 : xs (i + 1).toNatClampNeg = s1) (h2 : m_in (i + 2) L = true) (e2 : xs (i + 2).toNatClampNeg = s2) (h3 : m_in (i + 3) L = true) (e3 : xs (i + 3).toNatClampNeg = s3) (h4 : m_in (i + 4) L = true) (e4 : xs (i + 4).toNatClampNeg = s4) (h5 : m_in (i + 5) L = true) (e5 : xs (i + 5).toNatClampNeg = s5) (hx : m_callX 9 s1 s2 s3 s4 s5 x = some (r, x2)) (hy : m_callY 9 s1 s2 s3 s4 s5 y = some (r, y2)) (k : mS fm L xs m_gl pg_L_law 1345 [.ref (mBIG + 100), .ref 0, .ref 279, .int i] [] (mk x2 y2) A) : mS fm L xs m_gl pg_L_law 487 [.ref (mBIG + 100), .ref 0, .ref 279, .int i] [] (mk x y) A := by
  have hx : (f_X10_send s1 s2 x) = some (r, x2) := hx
  have hy : (f_X11_send s1 s2 y) = some (r, y2) := hy
  refine mS_steps (pc' := 492) (ls' := [.ref (mBIG + 100), .ref 0, .ref 279, .int i]) (st' := [.int (i + (1 : Int32)), .ref (mBIG + 100), .ref 0]) (mem' := (mk x y)) 5 rfl ?_
  refine mS_sld rfl h1 e1 ?_
  refine mS_steps (pc' := 497) (ls' := [.ref (mBIG + 100), .ref 0, .ref 279, .int i]) (st' := [.int (i + (2 : Int32)), .ref (mBIG + 100), .int s1, .ref 0]) (mem' := (mk x y)) 4 rfl ?_
  refine mS_sld rfl h2 e2 ?_
  refine mS_steps (pc' := 498) (ls' := [.ref (mBIG + 100), .ref 0, .ref 279, .int i]) (st' := [.int s2, .int s1, .ref 0]) (mem' := (mk x y)) 0 rfl ?_
  refine mS_call 140 3 [.ref 0, .int s1, .int s2] [] rfl rfl rfl ⟨_, _, _, rfl, rfl⟩ (Nat.le_of_ble_eq_true rfl) (Nat.le_of_ble_eq_true rfl) hx (f_X10_send_snd s1 s2 x y) ?_
  refine mS_steps (pc' := 506) (ls' := [.ref (mBIG + 100), .ref 0, .ref 279, .int i]) (st' := [.int (i + (1 : Int32)), .ref (mBIG + 100), .ref 279, .int r]) (mem' := (mk x2 y)) 5 rfl ?_
  refine mS_sld rfl h1 e1 ?_
  refine mS_steps (pc' := 511) (ls' := [.ref (mBIG + 100), .ref 0, .ref 279, .int i]) (st' := [.int (i + (2 : Int32)), .ref (mBIG + 100), .int s1, .ref 279, .int r]) (mem' := (mk x2 y)) 4 rfl ?_
  refine mS_sld rfl h2 e2 ?_
  refine mS_steps (pc' := 512) (ls' := [.ref (mBIG + 100), .ref 0, .ref 279, .int i]) (st' := [.int s2, .int s1, .ref 279, .int r]) (mem' := (mk x2 y)) 0 rfl ?_
  refine mS_call 160 3 [.ref 279, .int s1, .int s2] [.int r] rfl rfl rfl ⟨_, _, _, rfl, rfl⟩ (Nat.le_of_ble_eq_true rfl) (Nat.le_of_ble_eq_true rfl) hy (f_X11_send_snd s1 s2 y x2) ?_
  refine mS_steps (pc' := 515) (ls' := [.ref (mBIG + 100), .ref 0, .ref 279, .int i]) (st' := [.int r, .int r]) (mem' := (mk x2 y2)) 0 rfl ?_
  exact mS_one (pc' := 1345) (ls' := [.ref (mBIG + 100), .ref 0, .ref 279, .int i]) (st' := []) (mem' := (mk x2 y2)) rfl (by decide) (by show some (bif decide (r = r) then _ else _, _, _, _) = _; rw [decide_eq_true rfl]; rfl) k
set_option maxRecDepth 20000 in
set_option maxHeartbeats 2000000 in
theorem law_c10 (hfm : fm = .null ∨ fm = .ref (mBIG + 200)) {i s1 s2 s3 s4 s5 r : Int32} {x x2 : mX} {y y2 : mY} {A : Option (mX × mY)} (h1 : m_in (i + 1) L = true) (e1 : xs (i + 1).toNatClampNeg = s1) (h2 : m_in (i + 2) L = true) (e2 : xs (i + 2).toNatClampNeg = s2) (h3 : m_in (i + 3) L = true) (e3 : xs (i + 3).toNatClampNeg = s3) (h4 : m_in (i + 4) L = true) (e4 : xs (i + 4).toNatClampNeg = s4) (h5 : m_in (i + 5) L = true) (e5 : xs (i + 5).toNatClampNeg = s5) (hx : m_callX 10 s1 s2 s3 s4 s5 x = some (r, x2)) (hy : m_callY 10 s1 s2 s3 s4 s5 y = some (r, y2)) (k : mS fm L xs m_gl pg_L_law 1345 [.ref (mBIG + 100), .ref 0, .ref 279, .int i] [] (mk x2 y2) A) : mS fm L xs m_gl pg_L_law 520 [.ref (mBIG + 100), .ref 0, .ref 279, .int i] [] (mk x y) A := by
  have hx : (f_X10_undo x) = some (r, x2) := hx
  have hy : (f_X11_undo y) = some (r, y2) := hy
  refine mS_steps (pc' := 521) (ls' := [.ref (mBIG + 100), .ref 0, .ref 279, .int i]) (st' := [.ref 0]) (mem' := (mk x y)) 1 rfl ?_
  refine mS_call 162 1 [.ref 0] [] rfl rfl rfl ⟨_, _, _, rfl, rfl⟩ (Nat.le_of_ble_eq_true rfl) (Nat.le_of_ble_eq_true rfl) hx (f_X10_undo_snd  x y) ?_
  refine mS_steps (pc' := 525) (ls' := [.ref (mBIG + 100), .ref 0, .ref 279, .int i]) (st' := [.ref 279, .int r]) (mem' := (mk x2 y)) 1 rfl ?_
  refine mS_call 163 1 [.ref 279] [.int r] rfl rfl rfl ⟨_, _, _, rfl, rfl⟩ (Nat.le_of_ble_eq_true rfl) (Nat.le_of_ble_eq_true rfl) hy (f_X11_undo_snd  y x2) ?_
  refine mS_steps (pc' := 528) (ls' := [.ref (mBIG + 100), .ref 0, .ref 279, .int i]) (st' := [.int r, .int r]) (mem' := (mk x2 y2)) 0 rfl ?_
  exact mS_one (pc' := 1345) (ls' := [.ref (mBIG + 100), .ref 0, .ref 279, .int i]) (st' := []) (mem' := (mk x2 y2)) rfl (by decide) (by show some (bif decide (r = r) then _ else _, _, _, _) = _; rw [decide_eq_true rfl]; rfl) k
set_option maxRecDepth 20000 in
set_option maxHeartbeats 2000000 in
theorem law_c11 (hfm : fm = .null ∨ fm = .ref (mBIG + 200)) {i s1 s2 s3 s4 s5 r : Int32} {x x2 : mX} {y y2 : mY} {A : Option (mX × mY)} (h1 : m_in (i + 1) L = true) (e1 : xs (i + 1).toNatClampNeg = s1) (h2 : m_in (i + 2) L = true) (e2 : xs (i + 2).toNatClampNeg = s2) (h3 : m_in (i + 3) L = true) (e3 : xs (i + 3).toNatClampNeg = s3) (h4 : m_in (i + 4) L = true) (e4 : xs (i + 4).toNatClampNeg = s4) (h5 : m_in (i + 5) L = true) (e5 : xs (i + 5).toNatClampNeg = s5) (hx : m_callX 11 s1 s2 s3 s4 s5 x = some (r, x2)) (hy : m_callY 11 s1 s2 s3 s4 s5 y = some (r, y2)) (k : mS fm L xs m_gl pg_L_law 1345 [.ref (mBIG + 100), .ref 0, .ref 279, .int i] [] (mk x2 y2) A) : mS fm L xs m_gl pg_L_law 533 [.ref (mBIG + 100), .ref 0, .ref 279, .int i] [] (mk x y) A := by
  have hx : ((f_X10_link s1 s2 x).map fun r => (r, x)) = some (r, x2) := hx
  obtain ⟨r0, hx, ehx⟩ := Option.map_eq_some_iff.mp hx
  rw [(Prod.mk.inj ehx).1] at hx
  rw [← (Prod.mk.inj ehx).2] at k
  have hy : ((f_X11_link s1 s2 y).map fun r => (r, y)) = some (r, y2) := hy
  obtain ⟨r0, hy, ehy⟩ := Option.map_eq_some_iff.mp hy
  rw [(Prod.mk.inj ehy).1] at hy
  rw [← (Prod.mk.inj ehy).2] at k
  refine mS_steps (pc' := 538) (ls' := [.ref (mBIG + 100), .ref 0, .ref 279, .int i]) (st' := [.int (i + (1 : Int32)), .ref (mBIG + 100), .ref 0]) (mem' := (mk x y)) 5 rfl ?_
  refine mS_sld rfl h1 e1 ?_
  refine mS_steps (pc' := 543) (ls' := [.ref (mBIG + 100), .ref 0, .ref 279, .int i]) (st' := [.int (i + (2 : Int32)), .ref (mBIG + 100), .int s1, .ref 0]) (mem' := (mk x y)) 4 rfl ?_
  refine mS_sld rfl h2 e2 ?_
  refine mS_steps (pc' := 544) (ls' := [.ref (mBIG + 100), .ref 0, .ref 279, .int i]) (st' := [.int s2, .int s1, .ref 0]) (mem' := (mk x y)) 0 rfl ?_
  refine mS_call 164 3 [.ref 0, .int s1, .int s2] [] rfl rfl rfl ⟨_, _, _, rfl, rfl⟩ (Nat.le_of_ble_eq_true rfl) (Nat.le_of_ble_eq_true rfl) hx (f_X10_link_snd s1 s2 x y) ?_
  refine mS_steps (pc' := 552) (ls' := [.ref (mBIG + 100), .ref 0, .ref 279, .int i]) (st' := [.int (i + (1 : Int32)), .ref (mBIG + 100), .ref 279, .int r]) (mem' := (mk x y)) 5 rfl ?_
  refine mS_sld rfl h1 e1 ?_
  refine mS_steps (pc' := 557) (ls' := [.ref (mBIG + 100), .ref 0, .ref 279, .int i]) (st' := [.int (i + (2 : Int32)), .ref (mBIG + 100), .int s1, .ref 279, .int r]) (mem' := (mk x y)) 4 rfl ?_
  refine mS_sld rfl h2 e2 ?_
  refine mS_steps (pc' := 558) (ls' := [.ref (mBIG + 100), .ref 0, .ref 279, .int i]) (st' := [.int s2, .int s1, .ref 279, .int r]) (mem' := (mk x y)) 0 rfl ?_
  refine mS_call 165 3 [.ref 279, .int s1, .int s2] [.int r] rfl rfl rfl ⟨_, _, _, rfl, rfl⟩ (Nat.le_of_ble_eq_true rfl) (Nat.le_of_ble_eq_true rfl) hy (f_X11_link_snd s1 s2 y x) ?_
  refine mS_steps (pc' := 561) (ls' := [.ref (mBIG + 100), .ref 0, .ref 279, .int i]) (st' := [.int r, .int r]) (mem' := (mk x y)) 0 rfl ?_
  exact mS_one (pc' := 1345) (ls' := [.ref (mBIG + 100), .ref 0, .ref 279, .int i]) (st' := []) (mem' := (mk x y)) rfl (by decide) (by show some (bif decide (r = r) then _ else _, _, _, _) = _; rw [decide_eq_true rfl]; rfl) k
set_option maxRecDepth 20000 in
set_option maxHeartbeats 2000000 in
theorem law_c12 (hfm : fm = .null ∨ fm = .ref (mBIG + 200)) {i s1 s2 s3 s4 s5 r : Int32} {x x2 : mX} {y y2 : mY} {A : Option (mX × mY)} (h1 : m_in (i + 1) L = true) (e1 : xs (i + 1).toNatClampNeg = s1) (h2 : m_in (i + 2) L = true) (e2 : xs (i + 2).toNatClampNeg = s2) (h3 : m_in (i + 3) L = true) (e3 : xs (i + 3).toNatClampNeg = s3) (h4 : m_in (i + 4) L = true) (e4 : xs (i + 4).toNatClampNeg = s4) (h5 : m_in (i + 5) L = true) (e5 : xs (i + 5).toNatClampNeg = s5) (hx : m_callX 12 s1 s2 s3 s4 s5 x = some (r, x2)) (hy : m_callY 12 s1 s2 s3 s4 s5 y = some (r, y2)) (k : mS fm L xs m_gl pg_L_law 1345 [.ref (mBIG + 100), .ref 0, .ref 279, .int i] [] (mk x2 y2) A) : mS fm L xs m_gl pg_L_law 566 [.ref (mBIG + 100), .ref 0, .ref 279, .int i] [] (mk x y) A := by
  have hx : (f_X10_piece s1 s2 x) = some (r, x2) := hx
  have hy : (f_X11_piece s1 s2 y) = some (r, y2) := hy
  refine mS_steps (pc' := 571) (ls' := [.ref (mBIG + 100), .ref 0, .ref 279, .int i]) (st' := [.int (i + (1 : Int32)), .ref (mBIG + 100), .ref 0]) (mem' := (mk x y)) 5 rfl ?_
  refine mS_sld rfl h1 e1 ?_
  refine mS_steps (pc' := 576) (ls' := [.ref (mBIG + 100), .ref 0, .ref 279, .int i]) (st' := [.int (i + (2 : Int32)), .ref (mBIG + 100), .int s1, .ref 0]) (mem' := (mk x y)) 4 rfl ?_
  refine mS_sld rfl h2 e2 ?_
  refine mS_steps (pc' := 577) (ls' := [.ref (mBIG + 100), .ref 0, .ref 279, .int i]) (st' := [.int s2, .int s1, .ref 0]) (mem' := (mk x y)) 0 rfl ?_
  refine mS_call 172 3 [.ref 0, .int s1, .int s2] [] rfl rfl rfl ⟨_, _, _, rfl, rfl⟩ (Nat.le_of_ble_eq_true rfl) (Nat.le_of_ble_eq_true rfl) hx (f_X10_piece_snd s1 s2 x y) ?_
  refine mS_steps (pc' := 585) (ls' := [.ref (mBIG + 100), .ref 0, .ref 279, .int i]) (st' := [.int (i + (1 : Int32)), .ref (mBIG + 100), .ref 279, .int r]) (mem' := (mk x2 y)) 5 rfl ?_
  refine mS_sld rfl h1 e1 ?_
  refine mS_steps (pc' := 590) (ls' := [.ref (mBIG + 100), .ref 0, .ref 279, .int i]) (st' := [.int (i + (2 : Int32)), .ref (mBIG + 100), .int s1, .ref 279, .int r]) (mem' := (mk x2 y)) 4 rfl ?_
  refine mS_sld rfl h2 e2 ?_
  refine mS_steps (pc' := 591) (ls' := [.ref (mBIG + 100), .ref 0, .ref 279, .int i]) (st' := [.int s2, .int s1, .ref 279, .int r]) (mem' := (mk x2 y)) 0 rfl ?_
  refine mS_call 174 3 [.ref 279, .int s1, .int s2] [.int r] rfl rfl rfl ⟨_, _, _, rfl, rfl⟩ (Nat.le_of_ble_eq_true rfl) (Nat.le_of_ble_eq_true rfl) hy (f_X11_piece_snd s1 s2 y x2) ?_
  refine mS_steps (pc' := 594) (ls' := [.ref (mBIG + 100), .ref 0, .ref 279, .int i]) (st' := [.int r, .int r]) (mem' := (mk x2 y2)) 0 rfl ?_
  exact mS_one (pc' := 1345) (ls' := [.ref (mBIG + 100), .ref 0, .ref 279, .int i]) (st' := []) (mem' := (mk x2 y2)) rfl (by decide) (by show some (bif decide (r = r) then _ else _, _, _, _) = _; rw [decide_eq_true rfl]; rfl) k
set_option maxRecDepth 20000 in
set_option maxHeartbeats 2000000 in
theorem law_c13 (hfm : fm = .null ∨ fm = .ref (mBIG + 200)) {i s1 s2 s3 s4 s5 r : Int32} {x x2 : mX} {y y2 : mY} {A : Option (mX × mY)} (h1 : m_in (i + 1) L = true) (e1 : xs (i + 1).toNatClampNeg = s1) (h2 : m_in (i + 2) L = true) (e2 : xs (i + 2).toNatClampNeg = s2) (h3 : m_in (i + 3) L = true) (e3 : xs (i + 3).toNatClampNeg = s3) (h4 : m_in (i + 4) L = true) (e4 : xs (i + 4).toNatClampNeg = s4) (h5 : m_in (i + 5) L = true) (e5 : xs (i + 5).toNatClampNeg = s5) (hx : m_callX 13 s1 s2 s3 s4 s5 x = some (r, x2)) (hy : m_callY 13 s1 s2 s3 s4 s5 y = some (r, y2)) (k : mS fm L xs m_gl pg_L_law 1345 [.ref (mBIG + 100), .ref 0, .ref 279, .int i] [] (mk x2 y2) A) : mS fm L xs m_gl pg_L_law 599 [.ref (mBIG + 100), .ref 0, .ref 279, .int i] [] (mk x y) A := by
  have hx : (f_X10_block s1 s2 x) = some (r, x2) := hx
  have hy : (f_X11_block s1 s2 y) = some (r, y2) := hy
  refine mS_steps (pc' := 604) (ls' := [.ref (mBIG + 100), .ref 0, .ref 279, .int i]) (st' := [.int (i + (1 : Int32)), .ref (mBIG + 100), .ref 0]) (mem' := (mk x y)) 5 rfl ?_
  refine mS_sld rfl h1 e1 ?_
  refine mS_steps (pc' := 609) (ls' := [.ref (mBIG + 100), .ref 0, .ref 279, .int i]) (st' := [.int (i + (2 : Int32)), .ref (mBIG + 100), .int s1, .ref 0]) (mem' := (mk x y)) 4 rfl ?_
  refine mS_sld rfl h2 e2 ?_
  refine mS_steps (pc' := 610) (ls' := [.ref (mBIG + 100), .ref 0, .ref 279, .int i]) (st' := [.int s2, .int s1, .ref 0]) (mem' := (mk x y)) 0 rfl ?_
  refine mS_call 177 3 [.ref 0, .int s1, .int s2] [] rfl rfl rfl ⟨_, _, _, rfl, rfl⟩ (Nat.le_of_ble_eq_true rfl) (Nat.le_of_ble_eq_true rfl) hx (f_X10_block_snd s1 s2 x y) ?_
  refine mS_steps (pc' := 618) (ls' := [.ref (mBIG + 100), .ref 0, .ref 279, .int i]) (st' := [.int (i + (1 : Int32)), .ref (mBIG + 100), .ref 279, .int r]) (mem' := (mk x2 y)) 5 rfl ?_
  refine mS_sld rfl h1 e1 ?_
  refine mS_steps (pc' := 623) (ls' := [.ref (mBIG + 100), .ref 0, .ref 279, .int i]) (st' := [.int (i + (2 : Int32)), .ref (mBIG + 100), .int s1, .ref 279, .int r]) (mem' := (mk x2 y)) 4 rfl ?_
  refine mS_sld rfl h2 e2 ?_
  refine mS_steps (pc' := 624) (ls' := [.ref (mBIG + 100), .ref 0, .ref 279, .int i]) (st' := [.int s2, .int s1, .ref 279, .int r]) (mem' := (mk x2 y)) 0 rfl ?_
  refine mS_call 178 3 [.ref 279, .int s1, .int s2] [.int r] rfl rfl rfl ⟨_, _, _, rfl, rfl⟩ (Nat.le_of_ble_eq_true rfl) (Nat.le_of_ble_eq_true rfl) hy (f_X11_block_snd s1 s2 y x2) ?_
  refine mS_steps (pc' := 627) (ls' := [.ref (mBIG + 100), .ref 0, .ref 279, .int i]) (st' := [.int r, .int r]) (mem' := (mk x2 y2)) 0 rfl ?_
  exact mS_one (pc' := 1345) (ls' := [.ref (mBIG + 100), .ref 0, .ref 279, .int i]) (st' := []) (mem' := (mk x2 y2)) rfl (by decide) (by show some (bif decide (r = r) then _ else _, _, _, _) = _; rw [decide_eq_true rfl]; rfl) k
set_option maxRecDepth 20000 in
set_option maxHeartbeats 2000000 in
theorem law_c14 (hfm : fm = .null ∨ fm = .ref (mBIG + 200)) {i s1 s2 s3 s4 s5 r : Int32} {x x2 : mX} {y y2 : mY} {A : Option (mX × mY)} (h1 : m_in (i + 1) L = true) (e1 : xs (i + 1).toNatClampNeg = s1) (h2 : m_in (i + 2) L = true) (e2 : xs (i + 2).toNatClampNeg = s2) (h3 : m_in (i + 3) L = true) (e3 : xs (i + 3).toNatClampNeg = s3) (h4 : m_in (i + 4) L = true) (e4 : xs (i + 4).toNatClampNeg = s4) (h5 : m_in (i + 5) L = true) (e5 : xs (i + 5).toNatClampNeg = s5) (hx : m_callX 14 s1 s2 s3 s4 s5 x = some (r, x2)) (hy : m_callY 14 s1 s2 s3 s4 s5 y = some (r, y2)) (k : mS fm L xs m_gl pg_L_law 1345 [.ref (mBIG + 100), .ref 0, .ref 279, .int i] [] (mk x2 y2) A) : mS fm L xs m_gl pg_L_law 632 [.ref (mBIG + 100), .ref 0, .ref 279, .int i] [] (mk x y) A := by
  have hx : (f_X10_cuts s1 x) = some (r, x2) := hx
  have hy : (f_X11_cuts s1 y) = some (r, y2) := hy
  refine mS_steps (pc' := 637) (ls' := [.ref (mBIG + 100), .ref 0, .ref 279, .int i]) (st' := [.int (i + (1 : Int32)), .ref (mBIG + 100), .ref 0]) (mem' := (mk x y)) 5 rfl ?_
  refine mS_sld rfl h1 e1 ?_
  refine mS_steps (pc' := 638) (ls' := [.ref (mBIG + 100), .ref 0, .ref 279, .int i]) (st' := [.int s1, .ref 0]) (mem' := (mk x y)) 0 rfl ?_
  refine mS_call 180 2 [.ref 0, .int s1] [] rfl rfl rfl ⟨_, _, _, rfl, rfl⟩ (Nat.le_of_ble_eq_true rfl) (Nat.le_of_ble_eq_true rfl) hx (f_X10_cuts_snd s1 x y) ?_
  refine mS_steps (pc' := 646) (ls' := [.ref (mBIG + 100), .ref 0, .ref 279, .int i]) (st' := [.int (i + (1 : Int32)), .ref (mBIG + 100), .ref 279, .int r]) (mem' := (mk x2 y)) 5 rfl ?_
  refine mS_sld rfl h1 e1 ?_
  refine mS_steps (pc' := 647) (ls' := [.ref (mBIG + 100), .ref 0, .ref 279, .int i]) (st' := [.int s1, .ref 279, .int r]) (mem' := (mk x2 y)) 0 rfl ?_
  refine mS_call 182 2 [.ref 279, .int s1] [.int r] rfl rfl rfl ⟨_, _, _, rfl, rfl⟩ (Nat.le_of_ble_eq_true rfl) (Nat.le_of_ble_eq_true rfl) hy (f_X11_cuts_snd s1 y x2) ?_
  refine mS_steps (pc' := 650) (ls' := [.ref (mBIG + 100), .ref 0, .ref 279, .int i]) (st' := [.int r, .int r]) (mem' := (mk x2 y2)) 0 rfl ?_
  exact mS_one (pc' := 1345) (ls' := [.ref (mBIG + 100), .ref 0, .ref 279, .int i]) (st' := []) (mem' := (mk x2 y2)) rfl (by decide) (by show some (bif decide (r = r) then _ else _, _, _, _) = _; rw [decide_eq_true rfl]; rfl) k
set_option maxRecDepth 20000 in
set_option maxHeartbeats 2000000 in
theorem law_c15 (hfm : fm = .null ∨ fm = .ref (mBIG + 200)) {i s1 s2 s3 s4 s5 r : Int32} {x x2 : mX} {y y2 : mY} {A : Option (mX × mY)} (h1 : m_in (i + 1) L = true) (e1 : xs (i + 1).toNatClampNeg = s1) (h2 : m_in (i + 2) L = true) (e2 : xs (i + 2).toNatClampNeg = s2) (h3 : m_in (i + 3) L = true) (e3 : xs (i + 3).toNatClampNeg = s3) (h4 : m_in (i + 4) L = true) (e4 : xs (i + 4).toNatClampNeg = s4) (h5 : m_in (i + 5) L = true) (e5 : xs (i + 5).toNatClampNeg = s5) (hx : m_callX 15 s1 s2 s3 s4 s5 x = some (r, x2)) (hy : m_callY 15 s1 s2 s3 s4 s5 y = some (r, y2)) (k : mS fm L xs m_gl pg_L_law 1345 [.ref (mBIG + 100), .ref 0, .ref 279, .int i] [] (mk x2 y2) A) : mS fm L xs m_gl pg_L_law 655 [.ref (mBIG + 100), .ref 0, .ref 279, .int i] [] (mk x y) A := by
  have hx : (f_X10_bridges s1 x) = some (r, x2) := hx
  have hy : (f_X11_bridges s1 y) = some (r, y2) := hy
  refine mS_steps (pc' := 660) (ls' := [.ref (mBIG + 100), .ref 0, .ref 279, .int i]) (st' := [.int (i + (1 : Int32)), .ref (mBIG + 100), .ref 0]) (mem' := (mk x y)) 5 rfl ?_
  refine mS_sld rfl h1 e1 ?_
  refine mS_steps (pc' := 661) (ls' := [.ref (mBIG + 100), .ref 0, .ref 279, .int i]) (st' := [.int s1, .ref 0]) (mem' := (mk x y)) 0 rfl ?_
  refine mS_call 184 2 [.ref 0, .int s1] [] rfl rfl rfl ⟨_, _, _, rfl, rfl⟩ (Nat.le_of_ble_eq_true rfl) (Nat.le_of_ble_eq_true rfl) hx (f_X10_bridges_snd s1 x y) ?_
  refine mS_steps (pc' := 669) (ls' := [.ref (mBIG + 100), .ref 0, .ref 279, .int i]) (st' := [.int (i + (1 : Int32)), .ref (mBIG + 100), .ref 279, .int r]) (mem' := (mk x2 y)) 5 rfl ?_
  refine mS_sld rfl h1 e1 ?_
  refine mS_steps (pc' := 670) (ls' := [.ref (mBIG + 100), .ref 0, .ref 279, .int i]) (st' := [.int s1, .ref 279, .int r]) (mem' := (mk x2 y)) 0 rfl ?_
  refine mS_call 185 2 [.ref 279, .int s1] [.int r] rfl rfl rfl ⟨_, _, _, rfl, rfl⟩ (Nat.le_of_ble_eq_true rfl) (Nat.le_of_ble_eq_true rfl) hy (f_X11_bridges_snd s1 y x2) ?_
  refine mS_steps (pc' := 673) (ls' := [.ref (mBIG + 100), .ref 0, .ref 279, .int i]) (st' := [.int r, .int r]) (mem' := (mk x2 y2)) 0 rfl ?_
  exact mS_one (pc' := 1345) (ls' := [.ref (mBIG + 100), .ref 0, .ref 279, .int i]) (st' := []) (mem' := (mk x2 y2)) rfl (by decide) (by show some (bif decide (r = r) then _ else _, _, _, _) = _; rw [decide_eq_true rfl]; rfl) k
set_option maxRecDepth 20000 in
set_option maxHeartbeats 2000000 in
theorem law_c16 (hfm : fm = .null ∨ fm = .ref (mBIG + 200)) {i s1 s2 s3 s4 s5 r : Int32} {x x2 : mX} {y y2 : mY} {A : Option (mX × mY)} (h1 : m_in (i + 1) L = true) (e1 : xs (i + 1).toNatClampNeg = s1) (h2 : m_in (i + 2) L = true) (e2 : xs (i + 2).toNatClampNeg = s2) (h3 : m_in (i + 3) L = true) (e3 : xs (i + 3).toNatClampNeg = s3) (h4 : m_in (i + 4) L = true) (e4 : xs (i + 4).toNatClampNeg = s4) (h5 : m_in (i + 5) L = true) (e5 : xs (i + 5).toNatClampNeg = s5) (hx : m_callX 16 s1 s2 s3 s4 s5 x = some (r, x2)) (hy : m_callY 16 s1 s2 s3 s4 s5 y = some (r, y2)) (k : mS fm L xs m_gl pg_L_law 1345 [.ref (mBIG + 100), .ref 0, .ref 279, .int i] [] (mk x2 y2) A) : mS fm L xs m_gl pg_L_law 678 [.ref (mBIG + 100), .ref 0, .ref 279, .int i] [] (mk x y) A := by
  have hx : (f_X10_head s1 s2 x) = some (r, x2) := hx
  have hy : (f_X11_head s1 s2 y) = some (r, y2) := hy
  refine mS_steps (pc' := 683) (ls' := [.ref (mBIG + 100), .ref 0, .ref 279, .int i]) (st' := [.int (i + (1 : Int32)), .ref (mBIG + 100), .ref 0]) (mem' := (mk x y)) 5 rfl ?_
  refine mS_sld rfl h1 e1 ?_
  refine mS_steps (pc' := 688) (ls' := [.ref (mBIG + 100), .ref 0, .ref 279, .int i]) (st' := [.int (i + (2 : Int32)), .ref (mBIG + 100), .int s1, .ref 0]) (mem' := (mk x y)) 4 rfl ?_
  refine mS_sld rfl h2 e2 ?_
  refine mS_steps (pc' := 689) (ls' := [.ref (mBIG + 100), .ref 0, .ref 279, .int i]) (st' := [.int s2, .int s1, .ref 0]) (mem' := (mk x y)) 0 rfl ?_
  refine mS_call 188 3 [.ref 0, .int s1, .int s2] [] rfl rfl rfl ⟨_, _, _, rfl, rfl⟩ (Nat.le_of_ble_eq_true rfl) (Nat.le_of_ble_eq_true rfl) hx (f_X10_head_snd s1 s2 x y) ?_
  refine mS_steps (pc' := 697) (ls' := [.ref (mBIG + 100), .ref 0, .ref 279, .int i]) (st' := [.int (i + (1 : Int32)), .ref (mBIG + 100), .ref 279, .int r]) (mem' := (mk x2 y)) 5 rfl ?_
  refine mS_sld rfl h1 e1 ?_
  refine mS_steps (pc' := 702) (ls' := [.ref (mBIG + 100), .ref 0, .ref 279, .int i]) (st' := [.int (i + (2 : Int32)), .ref (mBIG + 100), .int s1, .ref 279, .int r]) (mem' := (mk x2 y)) 4 rfl ?_
  refine mS_sld rfl h2 e2 ?_
  refine mS_steps (pc' := 703) (ls' := [.ref (mBIG + 100), .ref 0, .ref 279, .int i]) (st' := [.int s2, .int s1, .ref 279, .int r]) (mem' := (mk x2 y)) 0 rfl ?_
  refine mS_call 190 3 [.ref 279, .int s1, .int s2] [.int r] rfl rfl rfl ⟨_, _, _, rfl, rfl⟩ (Nat.le_of_ble_eq_true rfl) (Nat.le_of_ble_eq_true rfl) hy (f_X11_head_snd s1 s2 y x2) ?_
  refine mS_steps (pc' := 706) (ls' := [.ref (mBIG + 100), .ref 0, .ref 279, .int i]) (st' := [.int r, .int r]) (mem' := (mk x2 y2)) 0 rfl ?_
  exact mS_one (pc' := 1345) (ls' := [.ref (mBIG + 100), .ref 0, .ref 279, .int i]) (st' := []) (mem' := (mk x2 y2)) rfl (by decide) (by show some (bif decide (r = r) then _ else _, _, _, _) = _; rw [decide_eq_true rfl]; rfl) k
set_option maxRecDepth 20000 in
set_option maxHeartbeats 2000000 in
theorem law_c17 (hfm : fm = .null ∨ fm = .ref (mBIG + 200)) {i s1 s2 s3 s4 s5 r : Int32} {x x2 : mX} {y y2 : mY} {A : Option (mX × mY)} (h1 : m_in (i + 1) L = true) (e1 : xs (i + 1).toNatClampNeg = s1) (h2 : m_in (i + 2) L = true) (e2 : xs (i + 2).toNatClampNeg = s2) (h3 : m_in (i + 3) L = true) (e3 : xs (i + 3).toNatClampNeg = s3) (h4 : m_in (i + 4) L = true) (e4 : xs (i + 4).toNatClampNeg = s4) (h5 : m_in (i + 5) L = true) (e5 : xs (i + 5).toNatClampNeg = s5) (hx : m_callX 17 s1 s2 s3 s4 s5 x = some (r, x2)) (hy : m_callY 17 s1 s2 s3 s4 s5 y = some (r, y2)) (k : mS fm L xs m_gl pg_L_law 1345 [.ref (mBIG + 100), .ref 0, .ref 279, .int i] [] (mk x2 y2) A) : mS fm L xs m_gl pg_L_law 711 [.ref (mBIG + 100), .ref 0, .ref 279, .int i] [] (mk x y) A := by
  have hx : (f_X10_last s1 s2 x) = some (r, x2) := hx
  have hy : (f_X11_last s1 s2 y) = some (r, y2) := hy
  refine mS_steps (pc' := 716) (ls' := [.ref (mBIG + 100), .ref 0, .ref 279, .int i]) (st' := [.int (i + (1 : Int32)), .ref (mBIG + 100), .ref 0]) (mem' := (mk x y)) 5 rfl ?_
  refine mS_sld rfl h1 e1 ?_
  refine mS_steps (pc' := 721) (ls' := [.ref (mBIG + 100), .ref 0, .ref 279, .int i]) (st' := [.int (i + (2 : Int32)), .ref (mBIG + 100), .int s1, .ref 0]) (mem' := (mk x y)) 4 rfl ?_
  refine mS_sld rfl h2 e2 ?_
  refine mS_steps (pc' := 722) (ls' := [.ref (mBIG + 100), .ref 0, .ref 279, .int i]) (st' := [.int s2, .int s1, .ref 0]) (mem' := (mk x y)) 0 rfl ?_
  refine mS_call 191 3 [.ref 0, .int s1, .int s2] [] rfl rfl rfl ⟨_, _, _, rfl, rfl⟩ (Nat.le_of_ble_eq_true rfl) (Nat.le_of_ble_eq_true rfl) hx (f_X10_last_snd s1 s2 x y) ?_
  refine mS_steps (pc' := 730) (ls' := [.ref (mBIG + 100), .ref 0, .ref 279, .int i]) (st' := [.int (i + (1 : Int32)), .ref (mBIG + 100), .ref 279, .int r]) (mem' := (mk x2 y)) 5 rfl ?_
  refine mS_sld rfl h1 e1 ?_
  refine mS_steps (pc' := 735) (ls' := [.ref (mBIG + 100), .ref 0, .ref 279, .int i]) (st' := [.int (i + (2 : Int32)), .ref (mBIG + 100), .int s1, .ref 279, .int r]) (mem' := (mk x2 y)) 4 rfl ?_
  refine mS_sld rfl h2 e2 ?_
  refine mS_steps (pc' := 736) (ls' := [.ref (mBIG + 100), .ref 0, .ref 279, .int i]) (st' := [.int s2, .int s1, .ref 279, .int r]) (mem' := (mk x2 y)) 0 rfl ?_
  refine mS_call 192 3 [.ref 279, .int s1, .int s2] [.int r] rfl rfl rfl ⟨_, _, _, rfl, rfl⟩ (Nat.le_of_ble_eq_true rfl) (Nat.le_of_ble_eq_true rfl) hy (f_X11_last_snd s1 s2 y x2) ?_
  refine mS_steps (pc' := 739) (ls' := [.ref (mBIG + 100), .ref 0, .ref 279, .int i]) (st' := [.int r, .int r]) (mem' := (mk x2 y2)) 0 rfl ?_
  exact mS_one (pc' := 1345) (ls' := [.ref (mBIG + 100), .ref 0, .ref 279, .int i]) (st' := []) (mem' := (mk x2 y2)) rfl (by decide) (by show some (bif decide (r = r) then _ else _, _, _, _) = _; rw [decide_eq_true rfl]; rfl) k
set_option maxRecDepth 20000 in
set_option maxHeartbeats 2000000 in
theorem law_c18 (hfm : fm = .null ∨ fm = .ref (mBIG + 200)) {i s1 s2 s3 s4 s5 r : Int32} {x x2 : mX} {y y2 : mY} {A : Option (mX × mY)} (h1 : m_in (i + 1) L = true) (e1 : xs (i + 1).toNatClampNeg = s1) (h2 : m_in (i + 2) L = true) (e2 : xs (i + 2).toNatClampNeg = s2) (h3 : m_in (i + 3) L = true) (e3 : xs (i + 3).toNatClampNeg = s3) (h4 : m_in (i + 4) L = true) (e4 : xs (i + 4).toNatClampNeg = s4) (h5 : m_in (i + 5) L = true) (e5 : xs (i + 5).toNatClampNeg = s5) (hx : m_callX 18 s1 s2 s3 s4 s5 x = some (r, x2)) (hy : m_callY 18 s1 s2 s3 s4 s5 y = some (r, y2)) (k : mS fm L xs m_gl pg_L_law 1345 [.ref (mBIG + 100), .ref 0, .ref 279, .int i] [] (mk x2 y2) A) : mS fm L xs m_gl pg_L_law 744 [.ref (mBIG + 100), .ref 0, .ref 279, .int i] [] (mk x y) A := by
  have hx : (f_X10_order s1 s2 s3 x) = some (r, x2) := hx
  have hy : (f_X11_order s1 s2 s3 y) = some (r, y2) := hy
  refine mS_steps (pc' := 749) (ls' := [.ref (mBIG + 100), .ref 0, .ref 279, .int i]) (st' := [.int (i + (1 : Int32)), .ref (mBIG + 100), .ref 0]) (mem' := (mk x y)) 5 rfl ?_
  refine mS_sld rfl h1 e1 ?_
  refine mS_steps (pc' := 754) (ls' := [.ref (mBIG + 100), .ref 0, .ref 279, .int i]) (st' := [.int (i + (2 : Int32)), .ref (mBIG + 100), .int s1, .ref 0]) (mem' := (mk x y)) 4 rfl ?_
  refine mS_sld rfl h2 e2 ?_
  refine mS_steps (pc' := 759) (ls' := [.ref (mBIG + 100), .ref 0, .ref 279, .int i]) (st' := [.int (i + (3 : Int32)), .ref (mBIG + 100), .int s2, .int s1, .ref 0]) (mem' := (mk x y)) 4 rfl ?_
  refine mS_sld rfl h3 e3 ?_
  refine mS_steps (pc' := 760) (ls' := [.ref (mBIG + 100), .ref 0, .ref 279, .int i]) (st' := [.int s3, .int s2, .int s1, .ref 0]) (mem' := (mk x y)) 0 rfl ?_
  refine mS_call 193 4 [.ref 0, .int s1, .int s2, .int s3] [] rfl rfl rfl ⟨_, _, _, rfl, rfl⟩ (Nat.le_of_ble_eq_true rfl) (Nat.le_of_ble_eq_true rfl) hx (f_X10_order_snd s1 s2 s3 x y) ?_
  refine mS_steps (pc' := 768) (ls' := [.ref (mBIG + 100), .ref 0, .ref 279, .int i]) (st' := [.int (i + (1 : Int32)), .ref (mBIG + 100), .ref 279, .int r]) (mem' := (mk x2 y)) 5 rfl ?_
  refine mS_sld rfl h1 e1 ?_
  refine mS_steps (pc' := 773) (ls' := [.ref (mBIG + 100), .ref 0, .ref 279, .int i]) (st' := [.int (i + (2 : Int32)), .ref (mBIG + 100), .int s1, .ref 279, .int r]) (mem' := (mk x2 y)) 4 rfl ?_
  refine mS_sld rfl h2 e2 ?_
  refine mS_steps (pc' := 778) (ls' := [.ref (mBIG + 100), .ref 0, .ref 279, .int i]) (st' := [.int (i + (3 : Int32)), .ref (mBIG + 100), .int s2, .int s1, .ref 279, .int r]) (mem' := (mk x2 y)) 4 rfl ?_
  refine mS_sld rfl h3 e3 ?_
  refine mS_steps (pc' := 779) (ls' := [.ref (mBIG + 100), .ref 0, .ref 279, .int i]) (st' := [.int s3, .int s2, .int s1, .ref 279, .int r]) (mem' := (mk x2 y)) 0 rfl ?_
  refine mS_call 194 4 [.ref 279, .int s1, .int s2, .int s3] [.int r] rfl rfl rfl ⟨_, _, _, rfl, rfl⟩ (Nat.le_of_ble_eq_true rfl) (Nat.le_of_ble_eq_true rfl) hy (f_X11_order_snd s1 s2 s3 y x2) ?_
  refine mS_steps (pc' := 782) (ls' := [.ref (mBIG + 100), .ref 0, .ref 279, .int i]) (st' := [.int r, .int r]) (mem' := (mk x2 y2)) 0 rfl ?_
  exact mS_one (pc' := 1345) (ls' := [.ref (mBIG + 100), .ref 0, .ref 279, .int i]) (st' := []) (mem' := (mk x2 y2)) rfl (by decide) (by show some (bif decide (r = r) then _ else _, _, _, _) = _; rw [decide_eq_true rfl]; rfl) k
set_option maxRecDepth 20000 in
set_option maxHeartbeats 2000000 in
theorem law_c19 (hfm : fm = .null ∨ fm = .ref (mBIG + 200)) {i s1 s2 s3 s4 s5 r : Int32} {x x2 : mX} {y y2 : mY} {A : Option (mX × mY)} (h1 : m_in (i + 1) L = true) (e1 : xs (i + 1).toNatClampNeg = s1) (h2 : m_in (i + 2) L = true) (e2 : xs (i + 2).toNatClampNeg = s2) (h3 : m_in (i + 3) L = true) (e3 : xs (i + 3).toNatClampNeg = s3) (h4 : m_in (i + 4) L = true) (e4 : xs (i + 4).toNatClampNeg = s4) (h5 : m_in (i + 5) L = true) (e5 : xs (i + 5).toNatClampNeg = s5) (hx : m_callX 19 s1 s2 s3 s4 s5 x = some (r, x2)) (hy : m_callY 19 s1 s2 s3 s4 s5 y = some (r, y2)) (k : mS fm L xs m_gl pg_L_law 1345 [.ref (mBIG + 100), .ref 0, .ref 279, .int i] [] (mk x2 y2) A) : mS fm L xs m_gl pg_L_law 787 [.ref (mBIG + 100), .ref 0, .ref 279, .int i] [] (mk x y) A := by
  have hx : (f_X10_hop s1 s2 s3 x) = some (r, x2) := hx
  have hy : (f_X11_hop s1 s2 s3 y) = some (r, y2) := hy
  refine mS_steps (pc' := 792) (ls' := [.ref (mBIG + 100), .ref 0, .ref 279, .int i]) (st' := [.int (i + (1 : Int32)), .ref (mBIG + 100), .ref 0]) (mem' := (mk x y)) 5 rfl ?_
  refine mS_sld rfl h1 e1 ?_
  refine mS_steps (pc' := 797) (ls' := [.ref (mBIG + 100), .ref 0, .ref 279, .int i]) (st' := [.int (i + (2 : Int32)), .ref (mBIG + 100), .int s1, .ref 0]) (mem' := (mk x y)) 4 rfl ?_
  refine mS_sld rfl h2 e2 ?_
  refine mS_steps (pc' := 802) (ls' := [.ref (mBIG + 100), .ref 0, .ref 279, .int i]) (st' := [.int (i + (3 : Int32)), .ref (mBIG + 100), .int s2, .int s1, .ref 0]) (mem' := (mk x y)) 4 rfl ?_
  refine mS_sld rfl h3 e3 ?_
  refine mS_steps (pc' := 803) (ls' := [.ref (mBIG + 100), .ref 0, .ref 279, .int i]) (st' := [.int s3, .int s2, .int s1, .ref 0]) (mem' := (mk x y)) 0 rfl ?_
  refine mS_call 196 4 [.ref 0, .int s1, .int s2, .int s3] [] rfl rfl rfl ⟨_, _, _, rfl, rfl⟩ (Nat.le_of_ble_eq_true rfl) (Nat.le_of_ble_eq_true rfl) hx (f_X10_hop_snd s1 s2 s3 x y) ?_
  refine mS_steps (pc' := 811) (ls' := [.ref (mBIG + 100), .ref 0, .ref 279, .int i]) (st' := [.int (i + (1 : Int32)), .ref (mBIG + 100), .ref 279, .int r]) (mem' := (mk x2 y)) 5 rfl ?_
  refine mS_sld rfl h1 e1 ?_
  refine mS_steps (pc' := 816) (ls' := [.ref (mBIG + 100), .ref 0, .ref 279, .int i]) (st' := [.int (i + (2 : Int32)), .ref (mBIG + 100), .int s1, .ref 279, .int r]) (mem' := (mk x2 y)) 4 rfl ?_
  refine mS_sld rfl h2 e2 ?_
  refine mS_steps (pc' := 821) (ls' := [.ref (mBIG + 100), .ref 0, .ref 279, .int i]) (st' := [.int (i + (3 : Int32)), .ref (mBIG + 100), .int s2, .int s1, .ref 279, .int r]) (mem' := (mk x2 y)) 4 rfl ?_
  refine mS_sld rfl h3 e3 ?_
  refine mS_steps (pc' := 822) (ls' := [.ref (mBIG + 100), .ref 0, .ref 279, .int i]) (st' := [.int s3, .int s2, .int s1, .ref 279, .int r]) (mem' := (mk x2 y)) 0 rfl ?_
  refine mS_call 197 4 [.ref 279, .int s1, .int s2, .int s3] [.int r] rfl rfl rfl ⟨_, _, _, rfl, rfl⟩ (Nat.le_of_ble_eq_true rfl) (Nat.le_of_ble_eq_true rfl) hy (f_X11_hop_snd s1 s2 s3 y x2) ?_
  refine mS_steps (pc' := 825) (ls' := [.ref (mBIG + 100), .ref 0, .ref 279, .int i]) (st' := [.int r, .int r]) (mem' := (mk x2 y2)) 0 rfl ?_
  exact mS_one (pc' := 1345) (ls' := [.ref (mBIG + 100), .ref 0, .ref 279, .int i]) (st' := []) (mem' := (mk x2 y2)) rfl (by decide) (by show some (bif decide (r = r) then _ else _, _, _, _) = _; rw [decide_eq_true rfl]; rfl) k
set_option maxRecDepth 20000 in
set_option maxHeartbeats 2000000 in
theorem law_c20 (hfm : fm = .null ∨ fm = .ref (mBIG + 200)) {i s1 s2 s3 s4 s5 r : Int32} {x x2 : mX} {y y2 : mY} {A : Option (mX × mY)} (h1 : m_in (i + 1) L = true) (e1 : xs (i + 1).toNatClampNeg = s1) (h2 : m_in (i + 2) L = true) (e2 : xs (i + 2).toNatClampNeg = s2) (h3 : m_in (i + 3) L = true) (e3 : xs (i + 3).toNatClampNeg = s3) (h4 : m_in (i + 4) L = true) (e4 : xs (i + 4).toNatClampNeg = s4) (h5 : m_in (i + 5) L = true) (e5 : xs (i + 5).toNatClampNeg = s5) (hx : m_callX 20 s1 s2 s3 s4 s5 x = some (r, x2)) (hy : m_callY 20 s1 s2 s3 s4 s5 y = some (r, y2)) (k : mS fm L xs m_gl pg_L_law 1345 [.ref (mBIG + 100), .ref 0, .ref 279, .int i] [] (mk x2 y2) A) : mS fm L xs m_gl pg_L_law 830 [.ref (mBIG + 100), .ref 0, .ref 279, .int i] [] (mk x y) A := by
  have hx : (f_X10_way s1 s2 s3 s4 x) = some (r, x2) := hx
  have hy : (f_X11_way s1 s2 s3 s4 y) = some (r, y2) := hy
  refine mS_steps (pc' := 835) (ls' := [.ref (mBIG + 100), .ref 0, .ref 279, .int i]) (st' := [.int (i + (1 : Int32)), .ref (mBIG + 100), .ref 0]) (mem' := (mk x y)) 5 rfl ?_
  refine mS_sld rfl h1 e1 ?_
  refine mS_steps (pc' := 840) (ls' := [.ref (mBIG + 100), .ref 0, .ref 279, .int i]) (st' := [.int (i + (2 : Int32)), .ref (mBIG + 100), .int s1, .ref 0]) (mem' := (mk x y)) 4 rfl ?_
  refine mS_sld rfl h2 e2 ?_
  refine mS_steps (pc' := 845) (ls' := [.ref (mBIG + 100), .ref 0, .ref 279, .int i]) (st' := [.int (i + (3 : Int32)), .ref (mBIG + 100), .int s2, .int s1, .ref 0]) (mem' := (mk x y)) 4 rfl ?_
  refine mS_sld rfl h3 e3 ?_
  refine mS_steps (pc' := 850) (ls' := [.ref (mBIG + 100), .ref 0, .ref 279, .int i]) (st' := [.int (i + (4 : Int32)), .ref (mBIG + 100), .int s3, .int s2, .int s1, .ref 0]) (mem' := (mk x y)) 4 rfl ?_
  refine mS_sld rfl h4 e4 ?_
  refine mS_steps (pc' := 851) (ls' := [.ref (mBIG + 100), .ref 0, .ref 279, .int i]) (st' := [.int s4, .int s3, .int s2, .int s1, .ref 0]) (mem' := (mk x y)) 0 rfl ?_
  refine mS_call 199 5 [.ref 0, .int s1, .int s2, .int s3, .int s4] [] rfl rfl rfl ⟨_, _, _, rfl, rfl⟩ (Nat.le_of_ble_eq_true rfl) (Nat.le_of_ble_eq_true rfl) hx (f_X10_way_snd s1 s2 s3 s4 x y) ?_
  refine mS_steps (pc' := 859) (ls' := [.ref (mBIG + 100), .ref 0, .ref 279, .int i]) (st' := [.int (i + (1 : Int32)), .ref (mBIG + 100), .ref 279, .int r]) (mem' := (mk x2 y)) 5 rfl ?_
  refine mS_sld rfl h1 e1 ?_
  refine mS_steps (pc' := 864) (ls' := [.ref (mBIG + 100), .ref 0, .ref 279, .int i]) (st' := [.int (i + (2 : Int32)), .ref (mBIG + 100), .int s1, .ref 279, .int r]) (mem' := (mk x2 y)) 4 rfl ?_
  refine mS_sld rfl h2 e2 ?_
  refine mS_steps (pc' := 869) (ls' := [.ref (mBIG + 100), .ref 0, .ref 279, .int i]) (st' := [.int (i + (3 : Int32)), .ref (mBIG + 100), .int s2, .int s1, .ref 279, .int r]) (mem' := (mk x2 y)) 4 rfl ?_
  refine mS_sld rfl h3 e3 ?_
  refine mS_steps (pc' := 874) (ls' := [.ref (mBIG + 100), .ref 0, .ref 279, .int i]) (st' := [.int (i + (4 : Int32)), .ref (mBIG + 100), .int s3, .int s2, .int s1, .ref 279, .int r]) (mem' := (mk x2 y)) 4 rfl ?_
  refine mS_sld rfl h4 e4 ?_
  refine mS_steps (pc' := 875) (ls' := [.ref (mBIG + 100), .ref 0, .ref 279, .int i]) (st' := [.int s4, .int s3, .int s2, .int s1, .ref 279, .int r]) (mem' := (mk x2 y)) 0 rfl ?_
  refine mS_call 200 5 [.ref 279, .int s1, .int s2, .int s3, .int s4] [.int r] rfl rfl rfl ⟨_, _, _, rfl, rfl⟩ (Nat.le_of_ble_eq_true rfl) (Nat.le_of_ble_eq_true rfl) hy (f_X11_way_snd s1 s2 s3 s4 y x2) ?_
  refine mS_steps (pc' := 878) (ls' := [.ref (mBIG + 100), .ref 0, .ref 279, .int i]) (st' := [.int r, .int r]) (mem' := (mk x2 y2)) 0 rfl ?_
  exact mS_one (pc' := 1345) (ls' := [.ref (mBIG + 100), .ref 0, .ref 279, .int i]) (st' := []) (mem' := (mk x2 y2)) rfl (by decide) (by show some (bif decide (r = r) then _ else _, _, _, _) = _; rw [decide_eq_true rfl]; rfl) k
set_option maxRecDepth 20000 in
set_option maxHeartbeats 2000000 in
theorem law_c21 (hfm : fm = .null ∨ fm = .ref (mBIG + 200)) {i s1 s2 s3 s4 s5 r : Int32} {x x2 : mX} {y y2 : mY} {A : Option (mX × mY)} (h1 : m_in (i + 1) L = true) (e1 : xs (i + 1).toNatClampNeg = s1) (h2 : m_in (i + 2) L = true) (e2 : xs (i + 2).toNatClampNeg = s2) (h3 : m_in (i + 3) L = true) (e3 : xs (i + 3).toNatClampNeg = s3) (h4 : m_in (i + 4) L = true) (e4 : xs (i + 4).toNatClampNeg = s4) (h5 : m_in (i + 5) L = true) (e5 : xs (i + 5).toNatClampNeg = s5) (hx : m_callX 21 s1 s2 s3 s4 s5 x = some (r, x2)) (hy : m_callY 21 s1 s2 s3 s4 s5 y = some (r, y2)) (k : mS fm L xs m_gl pg_L_law 1345 [.ref (mBIG + 100), .ref 0, .ref 279, .int i] [] (mk x2 y2) A) : mS fm L xs m_gl pg_L_law 883 [.ref (mBIG + 100), .ref 0, .ref 279, .int i] [] (mk x y) A := by
  have hx : (f_X10_both s1 s2 x) = some (r, x2) := hx
  have hy : (f_X11_both s1 s2 y) = some (r, y2) := hy
  refine mS_steps (pc' := 888) (ls' := [.ref (mBIG + 100), .ref 0, .ref 279, .int i]) (st' := [.int (i + (1 : Int32)), .ref (mBIG + 100), .ref 0]) (mem' := (mk x y)) 5 rfl ?_
  refine mS_sld rfl h1 e1 ?_
  refine mS_steps (pc' := 893) (ls' := [.ref (mBIG + 100), .ref 0, .ref 279, .int i]) (st' := [.int (i + (2 : Int32)), .ref (mBIG + 100), .int s1, .ref 0]) (mem' := (mk x y)) 4 rfl ?_
  refine mS_sld rfl h2 e2 ?_
  refine mS_steps (pc' := 894) (ls' := [.ref (mBIG + 100), .ref 0, .ref 279, .int i]) (st' := [.int s2, .int s1, .ref 0]) (mem' := (mk x y)) 0 rfl ?_
  refine mS_call 203 3 [.ref 0, .int s1, .int s2] [] rfl rfl rfl ⟨_, _, _, rfl, rfl⟩ (Nat.le_of_ble_eq_true rfl) (Nat.le_of_ble_eq_true rfl) hx (f_X10_both_snd s1 s2 x y) ?_
  refine mS_steps (pc' := 902) (ls' := [.ref (mBIG + 100), .ref 0, .ref 279, .int i]) (st' := [.int (i + (1 : Int32)), .ref (mBIG + 100), .ref 279, .int r]) (mem' := (mk x2 y)) 5 rfl ?_
  refine mS_sld rfl h1 e1 ?_
  refine mS_steps (pc' := 907) (ls' := [.ref (mBIG + 100), .ref 0, .ref 279, .int i]) (st' := [.int (i + (2 : Int32)), .ref (mBIG + 100), .int s1, .ref 279, .int r]) (mem' := (mk x2 y)) 4 rfl ?_
  refine mS_sld rfl h2 e2 ?_
  refine mS_steps (pc' := 908) (ls' := [.ref (mBIG + 100), .ref 0, .ref 279, .int i]) (st' := [.int s2, .int s1, .ref 279, .int r]) (mem' := (mk x2 y)) 0 rfl ?_
  refine mS_call 205 3 [.ref 279, .int s1, .int s2] [.int r] rfl rfl rfl ⟨_, _, _, rfl, rfl⟩ (Nat.le_of_ble_eq_true rfl) (Nat.le_of_ble_eq_true rfl) hy (f_X11_both_snd s1 s2 y x2) ?_
  refine mS_steps (pc' := 911) (ls' := [.ref (mBIG + 100), .ref 0, .ref 279, .int i]) (st' := [.int r, .int r]) (mem' := (mk x2 y2)) 0 rfl ?_
  exact mS_one (pc' := 1345) (ls' := [.ref (mBIG + 100), .ref 0, .ref 279, .int i]) (st' := []) (mem' := (mk x2 y2)) rfl (by decide) (by show some (bif decide (r = r) then _ else _, _, _, _) = _; rw [decide_eq_true rfl]; rfl) k
set_option maxRecDepth 20000 in
set_option maxHeartbeats 2000000 in
theorem law_c22 (hfm : fm = .null ∨ fm = .ref (mBIG + 200)) {i s1 s2 s3 s4 s5 r : Int32} {x x2 : mX} {y y2 : mY} {A : Option (mX × mY)} (h1 : m_in (i + 1) L = true) (e1 : xs (i + 1).toNatClampNeg = s1) (h2 : m_in (i + 2) L = true) (e2 : xs (i + 2).toNatClampNeg = s2) (h3 : m_in (i + 3) L = true) (e3 : xs (i + 3).toNatClampNeg = s3) (h4 : m_in (i + 4) L = true) (e4 : xs (i + 4).toNatClampNeg = s4) (h5 : m_in (i + 5) L = true) (e5 : xs (i + 5).toNatClampNeg = s5) (hx : m_callX 22 s1 s2 s3 s4 s5 x = some (r, x2)) (hy : m_callY 22 s1 s2 s3 s4 s5 y = some (r, y2)) (k : mS fm L xs m_gl pg_L_law 1345 [.ref (mBIG + 100), .ref 0, .ref 279, .int i] [] (mk x2 y2) A) : mS fm L xs m_gl pg_L_law 916 [.ref (mBIG + 100), .ref 0, .ref 279, .int i] [] (mk x y) A := by
  have hx : (f_X10_search s1 s2 s3 x) = some (r, x2) := hx
  have hy : (f_X11_search s1 s2 s3 y) = some (r, y2) := hy
  refine mS_steps (pc' := 921) (ls' := [.ref (mBIG + 100), .ref 0, .ref 279, .int i]) (st' := [.int (i + (1 : Int32)), .ref (mBIG + 100), .ref 0]) (mem' := (mk x y)) 5 rfl ?_
  refine mS_sld rfl h1 e1 ?_
  refine mS_steps (pc' := 926) (ls' := [.ref (mBIG + 100), .ref 0, .ref 279, .int i]) (st' := [.int (i + (2 : Int32)), .ref (mBIG + 100), .int s1, .ref 0]) (mem' := (mk x y)) 4 rfl ?_
  refine mS_sld rfl h2 e2 ?_
  refine mS_steps (pc' := 931) (ls' := [.ref (mBIG + 100), .ref 0, .ref 279, .int i]) (st' := [.int (i + (3 : Int32)), .ref (mBIG + 100), .int s2, .int s1, .ref 0]) (mem' := (mk x y)) 4 rfl ?_
  refine mS_sld rfl h3 e3 ?_
  refine mS_steps (pc' := 932) (ls' := [.ref (mBIG + 100), .ref 0, .ref 279, .int i]) (st' := [.int s3, .int s2, .int s1, .ref 0]) (mem' := (mk x y)) 0 rfl ?_
  refine mS_call 210 4 [.ref 0, .int s1, .int s2, .int s3] [] rfl rfl rfl ⟨_, _, _, rfl, rfl⟩ (Nat.le_of_ble_eq_true rfl) (Nat.le_of_ble_eq_true rfl) hx (f_X10_search_snd s1 s2 s3 x y) ?_
  refine mS_steps (pc' := 940) (ls' := [.ref (mBIG + 100), .ref 0, .ref 279, .int i]) (st' := [.int (i + (1 : Int32)), .ref (mBIG + 100), .ref 279, .int r]) (mem' := (mk x2 y)) 5 rfl ?_
  refine mS_sld rfl h1 e1 ?_
  refine mS_steps (pc' := 945) (ls' := [.ref (mBIG + 100), .ref 0, .ref 279, .int i]) (st' := [.int (i + (2 : Int32)), .ref (mBIG + 100), .int s1, .ref 279, .int r]) (mem' := (mk x2 y)) 4 rfl ?_
  refine mS_sld rfl h2 e2 ?_
  refine mS_steps (pc' := 950) (ls' := [.ref (mBIG + 100), .ref 0, .ref 279, .int i]) (st' := [.int (i + (3 : Int32)), .ref (mBIG + 100), .int s2, .int s1, .ref 279, .int r]) (mem' := (mk x2 y)) 4 rfl ?_
  refine mS_sld rfl h3 e3 ?_
  refine mS_steps (pc' := 951) (ls' := [.ref (mBIG + 100), .ref 0, .ref 279, .int i]) (st' := [.int s3, .int s2, .int s1, .ref 279, .int r]) (mem' := (mk x2 y)) 0 rfl ?_
  refine mS_call 212 4 [.ref 279, .int s1, .int s2, .int s3] [.int r] rfl rfl rfl ⟨_, _, _, rfl, rfl⟩ (Nat.le_of_ble_eq_true rfl) (Nat.le_of_ble_eq_true rfl) hy (f_X11_search_snd s1 s2 s3 y x2) ?_
  refine mS_steps (pc' := 954) (ls' := [.ref (mBIG + 100), .ref 0, .ref 279, .int i]) (st' := [.int r, .int r]) (mem' := (mk x2 y2)) 0 rfl ?_
  exact mS_one (pc' := 1345) (ls' := [.ref (mBIG + 100), .ref 0, .ref 279, .int i]) (st' := []) (mem' := (mk x2 y2)) rfl (by decide) (by show some (bif decide (r = r) then _ else _, _, _, _) = _; rw [decide_eq_true rfl]; rfl) k
set_option maxRecDepth 20000 in
set_option maxHeartbeats 2000000 in
theorem law_c23 (hfm : fm = .null ∨ fm = .ref (mBIG + 200)) {i s1 s2 s3 s4 s5 r : Int32} {x x2 : mX} {y y2 : mY} {A : Option (mX × mY)} (h1 : m_in (i + 1) L = true) (e1 : xs (i + 1).toNatClampNeg = s1) (h2 : m_in (i + 2) L = true) (e2 : xs (i + 2).toNatClampNeg = s2) (h3 : m_in (i + 3) L = true) (e3 : xs (i + 3).toNatClampNeg = s3) (h4 : m_in (i + 4) L = true) (e4 : xs (i + 4).toNatClampNeg = s4) (h5 : m_in (i + 5) L = true) (e5 : xs (i + 5).toNatClampNeg = s5) (hx : m_callX 23 s1 s2 s3 s4 s5 x = some (r, x2)) (hy : m_callY 23 s1 s2 s3 s4 s5 y = some (r, y2)) (k : mS fm L xs m_gl pg_L_law 1345 [.ref (mBIG + 100), .ref 0, .ref 279, .int i] [] (mk x2 y2) A) : mS fm L xs m_gl pg_L_law 959 [.ref (mBIG + 100), .ref 0, .ref 279, .int i] [] (mk x y) A := by
  have hx : (f_X10_ear s1 s2 s3 s4 x) = some (r, x2) := hx
  have hy : (f_X11_ear s1 s2 s3 s4 y) = some (r, y2) := hy
  refine mS_steps (pc' := 964) (ls' := [.ref (mBIG + 100), .ref 0, .ref 279, .int i]) (st' := [.int (i + (1 : Int32)), .ref (mBIG + 100), .ref 0]) (mem' := (mk x y)) 5 rfl ?_
  refine mS_sld rfl h1 e1 ?_
  refine mS_steps (pc' := 969) (ls' := [.ref (mBIG + 100), .ref 0, .ref 279, .int i]) (st' := [.int (i + (2 : Int32)), .ref (mBIG + 100), .int s1, .ref 0]) (mem' := (mk x y)) 4 rfl ?_
  refine mS_sld rfl h2 e2 ?_
  refine mS_steps (pc' := 974) (ls' := [.ref (mBIG + 100), .ref 0, .ref 279, .int i]) (st' := [.int (i + (3 : Int32)), .ref (mBIG + 100), .int s2, .int s1, .ref 0]) (mem' := (mk x y)) 4 rfl ?_
  refine mS_sld rfl h3 e3 ?_
  refine mS_steps (pc' := 979) (ls' := [.ref (mBIG + 100), .ref 0, .ref 279, .int i]) (st' := [.int (i + (4 : Int32)), .ref (mBIG + 100), .int s3, .int s2, .int s1, .ref 0]) (mem' := (mk x y)) 4 rfl ?_
  refine mS_sld rfl h4 e4 ?_
  refine mS_steps (pc' := 980) (ls' := [.ref (mBIG + 100), .ref 0, .ref 279, .int i]) (st' := [.int s4, .int s3, .int s2, .int s1, .ref 0]) (mem' := (mk x y)) 0 rfl ?_
  refine mS_call 222 5 [.ref 0, .int s1, .int s2, .int s3, .int s4] [] rfl rfl rfl ⟨_, _, _, rfl, rfl⟩ (Nat.le_of_ble_eq_true rfl) (Nat.le_of_ble_eq_true rfl) hx (f_X10_ear_snd s1 s2 s3 s4 x y) ?_
  refine mS_steps (pc' := 988) (ls' := [.ref (mBIG + 100), .ref 0, .ref 279, .int i]) (st' := [.int (i + (1 : Int32)), .ref (mBIG + 100), .ref 279, .int r]) (mem' := (mk x2 y)) 5 rfl ?_
  refine mS_sld rfl h1 e1 ?_
  refine mS_steps (pc' := 993) (ls' := [.ref (mBIG + 100), .ref 0, .ref 279, .int i]) (st' := [.int (i + (2 : Int32)), .ref (mBIG + 100), .int s1, .ref 279, .int r]) (mem' := (mk x2 y)) 4 rfl ?_
  refine mS_sld rfl h2 e2 ?_
  refine mS_steps (pc' := 998) (ls' := [.ref (mBIG + 100), .ref 0, .ref 279, .int i]) (st' := [.int (i + (3 : Int32)), .ref (mBIG + 100), .int s2, .int s1, .ref 279, .int r]) (mem' := (mk x2 y)) 4 rfl ?_
  refine mS_sld rfl h3 e3 ?_
  refine mS_steps (pc' := 1003) (ls' := [.ref (mBIG + 100), .ref 0, .ref 279, .int i]) (st' := [.int (i + (4 : Int32)), .ref (mBIG + 100), .int s3, .int s2, .int s1, .ref 279, .int r]) (mem' := (mk x2 y)) 4 rfl ?_
  refine mS_sld rfl h4 e4 ?_
  refine mS_steps (pc' := 1004) (ls' := [.ref (mBIG + 100), .ref 0, .ref 279, .int i]) (st' := [.int s4, .int s3, .int s2, .int s1, .ref 279, .int r]) (mem' := (mk x2 y)) 0 rfl ?_
  refine mS_call 229 5 [.ref 279, .int s1, .int s2, .int s3, .int s4] [.int r] rfl rfl rfl ⟨_, _, _, rfl, rfl⟩ (Nat.le_of_ble_eq_true rfl) (Nat.le_of_ble_eq_true rfl) hy (f_X11_ear_snd s1 s2 s3 s4 y x2) ?_
  refine mS_steps (pc' := 1007) (ls' := [.ref (mBIG + 100), .ref 0, .ref 279, .int i]) (st' := [.int r, .int r]) (mem' := (mk x2 y2)) 0 rfl ?_
  exact mS_one (pc' := 1345) (ls' := [.ref (mBIG + 100), .ref 0, .ref 279, .int i]) (st' := []) (mem' := (mk x2 y2)) rfl (by decide) (by show some (bif decide (r = r) then _ else _, _, _, _) = _; rw [decide_eq_true rfl]; rfl) k
set_option maxRecDepth 20000 in
set_option maxHeartbeats 2000000 in
theorem law_c24 (hfm : fm = .null ∨ fm = .ref (mBIG + 200)) {i s1 s2 s3 s4 s5 r : Int32} {x x2 : mX} {y y2 : mY} {A : Option (mX × mY)} (h1 : m_in (i + 1) L = true) (e1 : xs (i + 1).toNatClampNeg = s1) (h2 : m_in (i + 2) L = true) (e2 : xs (i + 2).toNatClampNeg = s2) (h3 : m_in (i + 3) L = true) (e3 : xs (i + 3).toNatClampNeg = s3) (h4 : m_in (i + 4) L = true) (e4 : xs (i + 4).toNatClampNeg = s4) (h5 : m_in (i + 5) L = true) (e5 : xs (i + 5).toNatClampNeg = s5) (hx : m_callX 24 s1 s2 s3 s4 s5 x = some (r, x2)) (hy : m_callY 24 s1 s2 s3 s4 s5 y = some (r, y2)) (k : mS fm L xs m_gl pg_L_law 1345 [.ref (mBIG + 100), .ref 0, .ref 279, .int i] [] (mk x2 y2) A) : mS fm L xs m_gl pg_L_law 1012 [.ref (mBIG + 100), .ref 0, .ref 279, .int i] [] (mk x y) A := by
  have hx : (f_X10_would s1 s2 s3 x) = some (r, x2) := hx
  have hy : (f_X11_would s1 s2 s3 y) = some (r, y2) := hy
  refine mS_steps (pc' := 1017) (ls' := [.ref (mBIG + 100), .ref 0, .ref 279, .int i]) (st' := [.int (i + (1 : Int32)), .ref (mBIG + 100), .ref 0]) (mem' := (mk x y)) 5 rfl ?_
  refine mS_sld rfl h1 e1 ?_
  refine mS_steps (pc' := 1022) (ls' := [.ref (mBIG + 100), .ref 0, .ref 279, .int i]) (st' := [.int (i + (2 : Int32)), .ref (mBIG + 100), .int s1, .ref 0]) (mem' := (mk x y)) 4 rfl ?_
  refine mS_sld rfl h2 e2 ?_
  refine mS_steps (pc' := 1027) (ls' := [.ref (mBIG + 100), .ref 0, .ref 279, .int i]) (st' := [.int (i + (3 : Int32)), .ref (mBIG + 100), .int s2, .int s1, .ref 0]) (mem' := (mk x y)) 4 rfl ?_
  refine mS_sld rfl h3 e3 ?_
  refine mS_steps (pc' := 1028) (ls' := [.ref (mBIG + 100), .ref 0, .ref 279, .int i]) (st' := [.int s3, .int s2, .int s1, .ref 0]) (mem' := (mk x y)) 0 rfl ?_
  refine mS_call 230 4 [.ref 0, .int s1, .int s2, .int s3] [] rfl rfl rfl ⟨_, _, _, rfl, rfl⟩ (Nat.le_of_ble_eq_true rfl) (Nat.le_of_ble_eq_true rfl) hx (f_X10_would_snd s1 s2 s3 x y) ?_
  refine mS_steps (pc' := 1036) (ls' := [.ref (mBIG + 100), .ref 0, .ref 279, .int i]) (st' := [.int (i + (1 : Int32)), .ref (mBIG + 100), .ref 279, .int r]) (mem' := (mk x2 y)) 5 rfl ?_
  refine mS_sld rfl h1 e1 ?_
  refine mS_steps (pc' := 1041) (ls' := [.ref (mBIG + 100), .ref 0, .ref 279, .int i]) (st' := [.int (i + (2 : Int32)), .ref (mBIG + 100), .int s1, .ref 279, .int r]) (mem' := (mk x2 y)) 4 rfl ?_
  refine mS_sld rfl h2 e2 ?_
  refine mS_steps (pc' := 1046) (ls' := [.ref (mBIG + 100), .ref 0, .ref 279, .int i]) (st' := [.int (i + (3 : Int32)), .ref (mBIG + 100), .int s2, .int s1, .ref 279, .int r]) (mem' := (mk x2 y)) 4 rfl ?_
  refine mS_sld rfl h3 e3 ?_
  refine mS_steps (pc' := 1047) (ls' := [.ref (mBIG + 100), .ref 0, .ref 279, .int i]) (st' := [.int s3, .int s2, .int s1, .ref 279, .int r]) (mem' := (mk x2 y)) 0 rfl ?_
  refine mS_call 231 4 [.ref 279, .int s1, .int s2, .int s3] [.int r] rfl rfl rfl ⟨_, _, _, rfl, rfl⟩ (Nat.le_of_ble_eq_true rfl) (Nat.le_of_ble_eq_true rfl) hy (f_X11_would_snd s1 s2 s3 y x2) ?_
  refine mS_steps (pc' := 1050) (ls' := [.ref (mBIG + 100), .ref 0, .ref 279, .int i]) (st' := [.int r, .int r]) (mem' := (mk x2 y2)) 0 rfl ?_
  exact mS_one (pc' := 1345) (ls' := [.ref (mBIG + 100), .ref 0, .ref 279, .int i]) (st' := []) (mem' := (mk x2 y2)) rfl (by decide) (by show some (bif decide (r = r) then _ else _, _, _, _) = _; rw [decide_eq_true rfl]; rfl) k
set_option maxRecDepth 20000 in
set_option maxHeartbeats 2000000 in
theorem law_c25 (hfm : fm = .null ∨ fm = .ref (mBIG + 200)) {i s1 s2 s3 s4 s5 r : Int32} {x x2 : mX} {y y2 : mY} {A : Option (mX × mY)} (h1 : m_in (i + 1) L = true) (e1 : xs (i + 1).toNatClampNeg = s1) (h2 : m_in (i + 2) L = true) (e2 : xs (i + 2).toNatClampNeg = s2) (h3 : m_in (i + 3) L = true) (e3 : xs (i + 3).toNatClampNeg = s3) (h4 : m_in (i + 4) L = true) (e4 : xs (i + 4).toNatClampNeg = s4) (h5 : m_in (i + 5) L = true) (e5 : xs (i + 5).toNatClampNeg = s5) (hx : m_callX 25 s1 s2 s3 s4 s5 x = some (r, x2)) (hy : m_callY 25 s1 s2 s3 s4 s5 y = some (r, y2)) (k : mS fm L xs m_gl pg_L_law 1345 [.ref (mBIG + 100), .ref 0, .ref 279, .int i] [] (mk x2 y2) A) : mS fm L xs m_gl pg_L_law 1055 [.ref (mBIG + 100), .ref 0, .ref 279, .int i] [] (mk x y) A := by
  have hx : (f_X10_loss s1 s2 x) = some (r, x2) := hx
  have hy : (f_X11_loss s1 s2 y) = some (r, y2) := hy
  refine mS_steps (pc' := 1060) (ls' := [.ref (mBIG + 100), .ref 0, .ref 279, .int i]) (st' := [.int (i + (1 : Int32)), .ref (mBIG + 100), .ref 0]) (mem' := (mk x y)) 5 rfl ?_
  refine mS_sld rfl h1 e1 ?_
  refine mS_steps (pc' := 1065) (ls' := [.ref (mBIG + 100), .ref 0, .ref 279, .int i]) (st' := [.int (i + (2 : Int32)), .ref (mBIG + 100), .int s1, .ref 0]) (mem' := (mk x y)) 4 rfl ?_
  refine mS_sld rfl h2 e2 ?_
  refine mS_steps (pc' := 1066) (ls' := [.ref (mBIG + 100), .ref 0, .ref 279, .int i]) (st' := [.int s2, .int s1, .ref 0]) (mem' := (mk x y)) 0 rfl ?_
  refine mS_call 233 3 [.ref 0, .int s1, .int s2] [] rfl rfl rfl ⟨_, _, _, rfl, rfl⟩ (Nat.le_of_ble_eq_true rfl) (Nat.le_of_ble_eq_true rfl) hx (f_X10_loss_snd s1 s2 x y) ?_
  refine mS_steps (pc' := 1074) (ls' := [.ref (mBIG + 100), .ref 0, .ref 279, .int i]) (st' := [.int (i + (1 : Int32)), .ref (mBIG + 100), .ref 279, .int r]) (mem' := (mk x2 y)) 5 rfl ?_
  refine mS_sld rfl h1 e1 ?_
  refine mS_steps (pc' := 1079) (ls' := [.ref (mBIG + 100), .ref 0, .ref 279, .int i]) (st' := [.int (i + (2 : Int32)), .ref (mBIG + 100), .int s1, .ref 279, .int r]) (mem' := (mk x2 y)) 4 rfl ?_
  refine mS_sld rfl h2 e2 ?_
  refine mS_steps (pc' := 1080) (ls' := [.ref (mBIG + 100), .ref 0, .ref 279, .int i]) (st' := [.int s2, .int s1, .ref 279, .int r]) (mem' := (mk x2 y)) 0 rfl ?_
  refine mS_call 234 3 [.ref 279, .int s1, .int s2] [.int r] rfl rfl rfl ⟨_, _, _, rfl, rfl⟩ (Nat.le_of_ble_eq_true rfl) (Nat.le_of_ble_eq_true rfl) hy (f_X11_loss_snd s1 s2 y x2) ?_
  refine mS_steps (pc' := 1083) (ls' := [.ref (mBIG + 100), .ref 0, .ref 279, .int i]) (st' := [.int r, .int r]) (mem' := (mk x2 y2)) 0 rfl ?_
  exact mS_one (pc' := 1345) (ls' := [.ref (mBIG + 100), .ref 0, .ref 279, .int i]) (st' := []) (mem' := (mk x2 y2)) rfl (by decide) (by show some (bif decide (r = r) then _ else _, _, _, _) = _; rw [decide_eq_true rfl]; rfl) k
set_option maxRecDepth 20000 in
set_option maxHeartbeats 2000000 in
theorem law_c26 (hfm : fm = .null ∨ fm = .ref (mBIG + 200)) {i s1 s2 s3 s4 s5 r : Int32} {x x2 : mX} {y y2 : mY} {A : Option (mX × mY)} (h1 : m_in (i + 1) L = true) (e1 : xs (i + 1).toNatClampNeg = s1) (h2 : m_in (i + 2) L = true) (e2 : xs (i + 2).toNatClampNeg = s2) (h3 : m_in (i + 3) L = true) (e3 : xs (i + 3).toNatClampNeg = s3) (h4 : m_in (i + 4) L = true) (e4 : xs (i + 4).toNatClampNeg = s4) (h5 : m_in (i + 5) L = true) (e5 : xs (i + 5).toNatClampNeg = s5) (hx : m_callX 26 s1 s2 s3 s4 s5 x = some (r, x2)) (hy : m_callY 26 s1 s2 s3 s4 s5 y = some (r, y2)) (k : mS fm L xs m_gl pg_L_law 1345 [.ref (mBIG + 100), .ref 0, .ref 279, .int i] [] (mk x2 y2) A) : mS fm L xs m_gl pg_L_law 1088 [.ref (mBIG + 100), .ref 0, .ref 279, .int i] [] (mk x y) A := by
  have hx : (f_X10_weak s1 s2 x) = some (r, x2) := hx
  have hy : (f_X11_weak s1 s2 y) = some (r, y2) := hy
  refine mS_steps (pc' := 1093) (ls' := [.ref (mBIG + 100), .ref 0, .ref 279, .int i]) (st' := [.int (i + (1 : Int32)), .ref (mBIG + 100), .ref 0]) (mem' := (mk x y)) 5 rfl ?_
  refine mS_sld rfl h1 e1 ?_
  refine mS_steps (pc' := 1098) (ls' := [.ref (mBIG + 100), .ref 0, .ref 279, .int i]) (st' := [.int (i + (2 : Int32)), .ref (mBIG + 100), .int s1, .ref 0]) (mem' := (mk x y)) 4 rfl ?_
  refine mS_sld rfl h2 e2 ?_
  refine mS_steps (pc' := 1099) (ls' := [.ref (mBIG + 100), .ref 0, .ref 279, .int i]) (st' := [.int s2, .int s1, .ref 0]) (mem' := (mk x y)) 0 rfl ?_
  refine mS_call 236 3 [.ref 0, .int s1, .int s2] [] rfl rfl rfl ⟨_, _, _, rfl, rfl⟩ (Nat.le_of_ble_eq_true rfl) (Nat.le_of_ble_eq_true rfl) hx (f_X10_weak_snd s1 s2 x y) ?_
  refine mS_steps (pc' := 1107) (ls' := [.ref (mBIG + 100), .ref 0, .ref 279, .int i]) (st' := [.int (i + (1 : Int32)), .ref (mBIG + 100), .ref 279, .int r]) (mem' := (mk x2 y)) 5 rfl ?_
  refine mS_sld rfl h1 e1 ?_
  refine mS_steps (pc' := 1112) (ls' := [.ref (mBIG + 100), .ref 0, .ref 279, .int i]) (st' := [.int (i + (2 : Int32)), .ref (mBIG + 100), .int s1, .ref 279, .int r]) (mem' := (mk x2 y)) 4 rfl ?_
  refine mS_sld rfl h2 e2 ?_
  refine mS_steps (pc' := 1113) (ls' := [.ref (mBIG + 100), .ref 0, .ref 279, .int i]) (st' := [.int s2, .int s1, .ref 279, .int r]) (mem' := (mk x2 y)) 0 rfl ?_
  refine mS_call 237 3 [.ref 279, .int s1, .int s2] [.int r] rfl rfl rfl ⟨_, _, _, rfl, rfl⟩ (Nat.le_of_ble_eq_true rfl) (Nat.le_of_ble_eq_true rfl) hy (f_X11_weak_snd s1 s2 y x2) ?_
  refine mS_steps (pc' := 1116) (ls' := [.ref (mBIG + 100), .ref 0, .ref 279, .int i]) (st' := [.int r, .int r]) (mem' := (mk x2 y2)) 0 rfl ?_
  exact mS_one (pc' := 1345) (ls' := [.ref (mBIG + 100), .ref 0, .ref 279, .int i]) (st' := []) (mem' := (mk x2 y2)) rfl (by decide) (by show some (bif decide (r = r) then _ else _, _, _, _) = _; rw [decide_eq_true rfl]; rfl) k
set_option maxRecDepth 20000 in
set_option maxHeartbeats 2000000 in
theorem law_c27 (hfm : fm = .null ∨ fm = .ref (mBIG + 200)) {i s1 s2 s3 s4 s5 r : Int32} {x x2 : mX} {y y2 : mY} {A : Option (mX × mY)} (h1 : m_in (i + 1) L = true) (e1 : xs (i + 1).toNatClampNeg = s1) (h2 : m_in (i + 2) L = true) (e2 : xs (i + 2).toNatClampNeg = s2) (h3 : m_in (i + 3) L = true) (e3 : xs (i + 3).toNatClampNeg = s3) (h4 : m_in (i + 4) L = true) (e4 : xs (i + 4).toNatClampNeg = s4) (h5 : m_in (i + 5) L = true) (e5 : xs (i + 5).toNatClampNeg = s5) (hx : m_callX 27 s1 s2 s3 s4 s5 x = some (r, x2)) (hy : m_callY 27 s1 s2 s3 s4 s5 y = some (r, y2)) (k : mS fm L xs m_gl pg_L_law 1345 [.ref (mBIG + 100), .ref 0, .ref 279, .int i] [] (mk x2 y2) A) : mS fm L xs m_gl pg_L_law 1121 [.ref (mBIG + 100), .ref 0, .ref 279, .int i] [] (mk x y) A := by
  have hx : (f_X10_load s1 x) = some (r, x2) := hx
  have hy : (f_X11_load s1 y) = some (r, y2) := hy
  refine mS_steps (pc' := 1126) (ls' := [.ref (mBIG + 100), .ref 0, .ref 279, .int i]) (st' := [.int (i + (1 : Int32)), .ref (mBIG + 100), .ref 0]) (mem' := (mk x y)) 5 rfl ?_
  refine mS_sld rfl h1 e1 ?_
  refine mS_steps (pc' := 1127) (ls' := [.ref (mBIG + 100), .ref 0, .ref 279, .int i]) (st' := [.int s1, .ref 0]) (mem' := (mk x y)) 0 rfl ?_
  refine mS_call 239 2 [.ref 0, .int s1] [] rfl rfl rfl ⟨_, _, _, rfl, rfl⟩ (Nat.le_of_ble_eq_true rfl) (Nat.le_of_ble_eq_true rfl) hx (f_X10_load_snd s1 x y) ?_
  refine mS_steps (pc' := 1135) (ls' := [.ref (mBIG + 100), .ref 0, .ref 279, .int i]) (st' := [.int (i + (1 : Int32)), .ref (mBIG + 100), .ref 279, .int r]) (mem' := (mk x2 y)) 5 rfl ?_
  refine mS_sld rfl h1 e1 ?_
  refine mS_steps (pc' := 1136) (ls' := [.ref (mBIG + 100), .ref 0, .ref 279, .int i]) (st' := [.int s1, .ref 279, .int r]) (mem' := (mk x2 y)) 0 rfl ?_
  refine mS_call 241 2 [.ref 279, .int s1] [.int r] rfl rfl rfl ⟨_, _, _, rfl, rfl⟩ (Nat.le_of_ble_eq_true rfl) (Nat.le_of_ble_eq_true rfl) hy (f_X11_load_snd s1 y x2) ?_
  refine mS_steps (pc' := 1139) (ls' := [.ref (mBIG + 100), .ref 0, .ref 279, .int i]) (st' := [.int r, .int r]) (mem' := (mk x2 y2)) 0 rfl ?_
  exact mS_one (pc' := 1345) (ls' := [.ref (mBIG + 100), .ref 0, .ref 279, .int i]) (st' := []) (mem' := (mk x2 y2)) rfl (by decide) (by show some (bif decide (r = r) then _ else _, _, _, _) = _; rw [decide_eq_true rfl]; rfl) k
set_option maxRecDepth 20000 in
set_option maxHeartbeats 2000000 in
theorem law_c28 (hfm : fm = .null ∨ fm = .ref (mBIG + 200)) {i s1 s2 s3 s4 s5 r : Int32} {x x2 : mX} {y y2 : mY} {A : Option (mX × mY)} (h1 : m_in (i + 1) L = true) (e1 : xs (i + 1).toNatClampNeg = s1) (h2 : m_in (i + 2) L = true) (e2 : xs (i + 2).toNatClampNeg = s2) (h3 : m_in (i + 3) L = true) (e3 : xs (i + 3).toNatClampNeg = s3) (h4 : m_in (i + 4) L = true) (e4 : xs (i + 4).toNatClampNeg = s4) (h5 : m_in (i + 5) L = true) (e5 : xs (i + 5).toNatClampNeg = s5) (hx : m_callX 28 s1 s2 s3 s4 s5 x = some (r, x2)) (hy : m_callY 28 s1 s2 s3 s4 s5 y = some (r, y2)) (k : mS fm L xs m_gl pg_L_law 1345 [.ref (mBIG + 100), .ref 0, .ref 279, .int i] [] (mk x2 y2) A) : mS fm L xs m_gl pg_L_law 1144 [.ref (mBIG + 100), .ref 0, .ref 279, .int i] [] (mk x y) A := by
  have hx : (f_X10_cheap s1 s2 x) = some (r, x2) := hx
  have hy : (f_X11_cheap s1 s2 y) = some (r, y2) := hy
  refine mS_steps (pc' := 1149) (ls' := [.ref (mBIG + 100), .ref 0, .ref 279, .int i]) (st' := [.int (i + (1 : Int32)), .ref (mBIG + 100), .ref 0]) (mem' := (mk x y)) 5 rfl ?_
  refine mS_sld rfl h1 e1 ?_
  refine mS_steps (pc' := 1154) (ls' := [.ref (mBIG + 100), .ref 0, .ref 279, .int i]) (st' := [.int (i + (2 : Int32)), .ref (mBIG + 100), .int s1, .ref 0]) (mem' := (mk x y)) 4 rfl ?_
  refine mS_sld rfl h2 e2 ?_
  refine mS_steps (pc' := 1155) (ls' := [.ref (mBIG + 100), .ref 0, .ref 279, .int i]) (st' := [.int s2, .int s1, .ref 0]) (mem' := (mk x y)) 0 rfl ?_
  refine mS_call 244 3 [.ref 0, .int s1, .int s2] [] rfl rfl rfl ⟨_, _, _, rfl, rfl⟩ (Nat.le_of_ble_eq_true rfl) (Nat.le_of_ble_eq_true rfl) hx (f_X10_cheap_snd s1 s2 x y) ?_
  refine mS_steps (pc' := 1163) (ls' := [.ref (mBIG + 100), .ref 0, .ref 279, .int i]) (st' := [.int (i + (1 : Int32)), .ref (mBIG + 100), .ref 279, .int r]) (mem' := (mk x2 y)) 5 rfl ?_
  refine mS_sld rfl h1 e1 ?_
  refine mS_steps (pc' := 1168) (ls' := [.ref (mBIG + 100), .ref 0, .ref 279, .int i]) (st' := [.int (i + (2 : Int32)), .ref (mBIG + 100), .int s1, .ref 279, .int r]) (mem' := (mk x2 y)) 4 rfl ?_
  refine mS_sld rfl h2 e2 ?_
  refine mS_steps (pc' := 1169) (ls' := [.ref (mBIG + 100), .ref 0, .ref 279, .int i]) (st' := [.int s2, .int s1, .ref 279, .int r]) (mem' := (mk x2 y)) 0 rfl ?_
  refine mS_call 247 3 [.ref 279, .int s1, .int s2] [.int r] rfl rfl rfl ⟨_, _, _, rfl, rfl⟩ (Nat.le_of_ble_eq_true rfl) (Nat.le_of_ble_eq_true rfl) hy (f_X11_cheap_snd s1 s2 y x2) ?_
  refine mS_steps (pc' := 1172) (ls' := [.ref (mBIG + 100), .ref 0, .ref 279, .int i]) (st' := [.int r, .int r]) (mem' := (mk x2 y2)) 0 rfl ?_
  exact mS_one (pc' := 1345) (ls' := [.ref (mBIG + 100), .ref 0, .ref 279, .int i]) (st' := []) (mem' := (mk x2 y2)) rfl (by decide) (by show some (bif decide (r = r) then _ else _, _, _, _) = _; rw [decide_eq_true rfl]; rfl) k
set_option maxRecDepth 20000 in
set_option maxHeartbeats 2000000 in
theorem law_c29 (hfm : fm = .null ∨ fm = .ref (mBIG + 200)) {i s1 s2 s3 s4 s5 r : Int32} {x x2 : mX} {y y2 : mY} {A : Option (mX × mY)} (h1 : m_in (i + 1) L = true) (e1 : xs (i + 1).toNatClampNeg = s1) (h2 : m_in (i + 2) L = true) (e2 : xs (i + 2).toNatClampNeg = s2) (h3 : m_in (i + 3) L = true) (e3 : xs (i + 3).toNatClampNeg = s3) (h4 : m_in (i + 4) L = true) (e4 : xs (i + 4).toNatClampNeg = s4) (h5 : m_in (i + 5) L = true) (e5 : xs (i + 5).toNatClampNeg = s5) (hx : m_callX 29 s1 s2 s3 s4 s5 x = some (r, x2)) (hy : m_callY 29 s1 s2 s3 s4 s5 y = some (r, y2)) (k : mS fm L xs m_gl pg_L_law 1345 [.ref (mBIG + 100), .ref 0, .ref 279, .int i] [] (mk x2 y2) A) : mS fm L xs m_gl pg_L_law 1177 [.ref (mBIG + 100), .ref 0, .ref 279, .int i] [] (mk x y) A := by
  have hx : (f_X10_pair s1 s2 x) = some (r, x2) := hx
  have hy : (f_X11_pair s1 s2 y) = some (r, y2) := hy
  refine mS_steps (pc' := 1182) (ls' := [.ref (mBIG + 100), .ref 0, .ref 279, .int i]) (st' := [.int (i + (1 : Int32)), .ref (mBIG + 100), .ref 0]) (mem' := (mk x y)) 5 rfl ?_
  refine mS_sld rfl h1 e1 ?_
  refine mS_steps (pc' := 1187) (ls' := [.ref (mBIG + 100), .ref 0, .ref 279, .int i]) (st' := [.int (i + (2 : Int32)), .ref (mBIG + 100), .int s1, .ref 0]) (mem' := (mk x y)) 4 rfl ?_
  refine mS_sld rfl h2 e2 ?_
  refine mS_steps (pc' := 1188) (ls' := [.ref (mBIG + 100), .ref 0, .ref 279, .int i]) (st' := [.int s2, .int s1, .ref 0]) (mem' := (mk x y)) 0 rfl ?_
  refine mS_call 249 3 [.ref 0, .int s1, .int s2] [] rfl rfl rfl ⟨_, _, _, rfl, rfl⟩ (Nat.le_of_ble_eq_true rfl) (Nat.le_of_ble_eq_true rfl) hx (f_X10_pair_snd s1 s2 x y) ?_
  refine mS_steps (pc' := 1196) (ls' := [.ref (mBIG + 100), .ref 0, .ref 279, .int i]) (st' := [.int (i + (1 : Int32)), .ref (mBIG + 100), .ref 279, .int r]) (mem' := (mk x2 y)) 5 rfl ?_
  refine mS_sld rfl h1 e1 ?_
  refine mS_steps (pc' := 1201) (ls' := [.ref (mBIG + 100), .ref 0, .ref 279, .int i]) (st' := [.int (i + (2 : Int32)), .ref (mBIG + 100), .int s1, .ref 279, .int r]) (mem' := (mk x2 y)) 4 rfl ?_
  refine mS_sld rfl h2 e2 ?_
  refine mS_steps (pc' := 1202) (ls' := [.ref (mBIG + 100), .ref 0, .ref 279, .int i]) (st' := [.int s2, .int s1, .ref 279, .int r]) (mem' := (mk x2 y)) 0 rfl ?_
  refine mS_call 250 3 [.ref 279, .int s1, .int s2] [.int r] rfl rfl rfl ⟨_, _, _, rfl, rfl⟩ (Nat.le_of_ble_eq_true rfl) (Nat.le_of_ble_eq_true rfl) hy (f_X11_pair_snd s1 s2 y x2) ?_
  refine mS_steps (pc' := 1205) (ls' := [.ref (mBIG + 100), .ref 0, .ref 279, .int i]) (st' := [.int r, .int r]) (mem' := (mk x2 y2)) 0 rfl ?_
  exact mS_one (pc' := 1345) (ls' := [.ref (mBIG + 100), .ref 0, .ref 279, .int i]) (st' := []) (mem' := (mk x2 y2)) rfl (by decide) (by show some (bif decide (r = r) then _ else _, _, _, _) = _; rw [decide_eq_true rfl]; rfl) k
set_option maxRecDepth 20000 in
set_option maxHeartbeats 2000000 in
theorem law_c30 (hfm : fm = .null ∨ fm = .ref (mBIG + 200)) {i s1 s2 s3 s4 s5 r : Int32} {x x2 : mX} {y y2 : mY} {A : Option (mX × mY)} (h1 : m_in (i + 1) L = true) (e1 : xs (i + 1).toNatClampNeg = s1) (h2 : m_in (i + 2) L = true) (e2 : xs (i + 2).toNatClampNeg = s2) (h3 : m_in (i + 3) L = true) (e3 : xs (i + 3).toNatClampNeg = s3) (h4 : m_in (i + 4) L = true) (e4 : xs (i + 4).toNatClampNeg = s4) (h5 : m_in (i + 5) L = true) (e5 : xs (i + 5).toNatClampNeg = s5) (hx : m_callX 30 s1 s2 s3 s4 s5 x = some (r, x2)) (hy : m_callY 30 s1 s2 s3 s4 s5 y = some (r, y2)) (k : mS fm L xs m_gl pg_L_law 1345 [.ref (mBIG + 100), .ref 0, .ref 279, .int i] [] (mk x2 y2) A) : mS fm L xs m_gl pg_L_law 1210 [.ref (mBIG + 100), .ref 0, .ref 279, .int i] [] (mk x y) A := by
  have hx : (f_X10_dear s1 s2 s3 x) = some (r, x2) := hx
  have hy : (f_X11_dear s1 s2 s3 y) = some (r, y2) := hy
  refine mS_steps (pc' := 1215) (ls' := [.ref (mBIG + 100), .ref 0, .ref 279, .int i]) (st' := [.int (i + (1 : Int32)), .ref (mBIG + 100), .ref 0]) (mem' := (mk x y)) 5 rfl ?_
  refine mS_sld rfl h1 e1 ?_
  refine mS_steps (pc' := 1220) (ls' := [.ref (mBIG + 100), .ref 0, .ref 279, .int i]) (st' := [.int (i + (2 : Int32)), .ref (mBIG + 100), .int s1, .ref 0]) (mem' := (mk x y)) 4 rfl ?_
  refine mS_sld rfl h2 e2 ?_
  refine mS_steps (pc' := 1225) (ls' := [.ref (mBIG + 100), .ref 0, .ref 279, .int i]) (st' := [.int (i + (3 : Int32)), .ref (mBIG + 100), .int s2, .int s1, .ref 0]) (mem' := (mk x y)) 4 rfl ?_
  refine mS_sld rfl h3 e3 ?_
  refine mS_steps (pc' := 1226) (ls' := [.ref (mBIG + 100), .ref 0, .ref 279, .int i]) (st' := [.int s3, .int s2, .int s1, .ref 0]) (mem' := (mk x y)) 0 rfl ?_
  refine mS_call 252 4 [.ref 0, .int s1, .int s2, .int s3] [] rfl rfl rfl ⟨_, _, _, rfl, rfl⟩ (Nat.le_of_ble_eq_true rfl) (Nat.le_of_ble_eq_true rfl) hx (f_X10_dear_snd s1 s2 s3 x y) ?_
  refine mS_steps (pc' := 1234) (ls' := [.ref (mBIG + 100), .ref 0, .ref 279, .int i]) (st' := [.int (i + (1 : Int32)), .ref (mBIG + 100), .ref 279, .int r]) (mem' := (mk x2 y)) 5 rfl ?_
  refine mS_sld rfl h1 e1 ?_
  refine mS_steps (pc' := 1239) (ls' := [.ref (mBIG + 100), .ref 0, .ref 279, .int i]) (st' := [.int (i + (2 : Int32)), .ref (mBIG + 100), .int s1, .ref 279, .int r]) (mem' := (mk x2 y)) 4 rfl ?_
  refine mS_sld rfl h2 e2 ?_
  refine mS_steps (pc' := 1244) (ls' := [.ref (mBIG + 100), .ref 0, .ref 279, .int i]) (st' := [.int (i + (3 : Int32)), .ref (mBIG + 100), .int s2, .int s1, .ref 279, .int r]) (mem' := (mk x2 y)) 4 rfl ?_
  refine mS_sld rfl h3 e3 ?_
  refine mS_steps (pc' := 1245) (ls' := [.ref (mBIG + 100), .ref 0, .ref 279, .int i]) (st' := [.int s3, .int s2, .int s1, .ref 279, .int r]) (mem' := (mk x2 y)) 0 rfl ?_
  refine mS_call 253 4 [.ref 279, .int s1, .int s2, .int s3] [.int r] rfl rfl rfl ⟨_, _, _, rfl, rfl⟩ (Nat.le_of_ble_eq_true rfl) (Nat.le_of_ble_eq_true rfl) hy (f_X11_dear_snd s1 s2 s3 y x2) ?_
  refine mS_steps (pc' := 1248) (ls' := [.ref (mBIG + 100), .ref 0, .ref 279, .int i]) (st' := [.int r, .int r]) (mem' := (mk x2 y2)) 0 rfl ?_
  exact mS_one (pc' := 1345) (ls' := [.ref (mBIG + 100), .ref 0, .ref 279, .int i]) (st' := []) (mem' := (mk x2 y2)) rfl (by decide) (by show some (bif decide (r = r) then _ else _, _, _, _) = _; rw [decide_eq_true rfl]; rfl) k
set_option maxRecDepth 20000 in
set_option maxHeartbeats 2000000 in
theorem law_c31 (hfm : fm = .null ∨ fm = .ref (mBIG + 200)) {i s1 s2 s3 s4 s5 r : Int32} {x x2 : mX} {y y2 : mY} {A : Option (mX × mY)} (h1 : m_in (i + 1) L = true) (e1 : xs (i + 1).toNatClampNeg = s1) (h2 : m_in (i + 2) L = true) (e2 : xs (i + 2).toNatClampNeg = s2) (h3 : m_in (i + 3) L = true) (e3 : xs (i + 3).toNatClampNeg = s3) (h4 : m_in (i + 4) L = true) (e4 : xs (i + 4).toNatClampNeg = s4) (h5 : m_in (i + 5) L = true) (e5 : xs (i + 5).toNatClampNeg = s5) (hx : m_callX 31 s1 s2 s3 s4 s5 x = some (r, x2)) (hy : m_callY 31 s1 s2 s3 s4 s5 y = some (r, y2)) (k : mS fm L xs m_gl pg_L_law 1345 [.ref (mBIG + 100), .ref 0, .ref 279, .int i] [] (mk x2 y2) A) : mS fm L xs m_gl pg_L_law 1253 [.ref (mBIG + 100), .ref 0, .ref 279, .int i] [] (mk x y) A := by
  have hx : (f_X10_grow s1 x) = some (r, x2) := hx
  have hy : (f_X11_grow s1 y) = some (r, y2) := hy
  refine mS_steps (pc' := 1258) (ls' := [.ref (mBIG + 100), .ref 0, .ref 279, .int i]) (st' := [.int (i + (1 : Int32)), .ref (mBIG + 100), .ref 0]) (mem' := (mk x y)) 5 rfl ?_
  refine mS_sld rfl h1 e1 ?_
  refine mS_steps (pc' := 1259) (ls' := [.ref (mBIG + 100), .ref 0, .ref 279, .int i]) (st' := [.int s1, .ref 0]) (mem' := (mk x y)) 0 rfl ?_
  refine mS_call 262 2 [.ref 0, .int s1] [] rfl rfl rfl ⟨_, _, _, rfl, rfl⟩ (Nat.le_of_ble_eq_true rfl) (Nat.le_of_ble_eq_true rfl) hx (f_X10_grow_snd s1 x y) ?_
  refine mS_steps (pc' := 1267) (ls' := [.ref (mBIG + 100), .ref 0, .ref 279, .int i]) (st' := [.int (i + (1 : Int32)), .ref (mBIG + 100), .ref 279, .int r]) (mem' := (mk x2 y)) 5 rfl ?_
  refine mS_sld rfl h1 e1 ?_
  refine mS_steps (pc' := 1268) (ls' := [.ref (mBIG + 100), .ref 0, .ref 279, .int i]) (st' := [.int s1, .ref 279, .int r]) (mem' := (mk x2 y)) 0 rfl ?_
  refine mS_call 266 2 [.ref 279, .int s1] [.int r] rfl rfl rfl ⟨_, _, _, rfl, rfl⟩ (Nat.le_of_ble_eq_true rfl) (Nat.le_of_ble_eq_true rfl) hy (f_X11_grow_snd s1 y x2) ?_
  refine mS_steps (pc' := 1271) (ls' := [.ref (mBIG + 100), .ref 0, .ref 279, .int i]) (st' := [.int r, .int r]) (mem' := (mk x2 y2)) 0 rfl ?_
  exact mS_one (pc' := 1345) (ls' := [.ref (mBIG + 100), .ref 0, .ref 279, .int i]) (st' := []) (mem' := (mk x2 y2)) rfl (by decide) (by show some (bif decide (r = r) then _ else _, _, _, _) = _; rw [decide_eq_true rfl]; rfl) k
set_option maxRecDepth 20000 in
set_option maxHeartbeats 2000000 in
theorem law_c32 (hfm : fm = .null ∨ fm = .ref (mBIG + 200)) {i s1 s2 s3 s4 s5 r : Int32} {x x2 : mX} {y y2 : mY} {A : Option (mX × mY)} (h1 : m_in (i + 1) L = true) (e1 : xs (i + 1).toNatClampNeg = s1) (h2 : m_in (i + 2) L = true) (e2 : xs (i + 2).toNatClampNeg = s2) (h3 : m_in (i + 3) L = true) (e3 : xs (i + 3).toNatClampNeg = s3) (h4 : m_in (i + 4) L = true) (e4 : xs (i + 4).toNatClampNeg = s4) (h5 : m_in (i + 5) L = true) (e5 : xs (i + 5).toNatClampNeg = s5) (hx : m_callX 32 s1 s2 s3 s4 s5 x = some (r, x2)) (hy : m_callY 32 s1 s2 s3 s4 s5 y = some (r, y2)) (k : mS fm L xs m_gl pg_L_law 1345 [.ref (mBIG + 100), .ref 0, .ref 279, .int i] [] (mk x2 y2) A) : mS fm L xs m_gl pg_L_law 1276 [.ref (mBIG + 100), .ref 0, .ref 279, .int i] [] (mk x y) A := by
  have hx : (f_X10_hold s1 x) = some (r, x2) := hx
  have hy : (f_X11_hold s1 y) = some (r, y2) := hy
  refine mS_steps (pc' := 1281) (ls' := [.ref (mBIG + 100), .ref 0, .ref 279, .int i]) (st' := [.int (i + (1 : Int32)), .ref (mBIG + 100), .ref 0]) (mem' := (mk x y)) 5 rfl ?_
  refine mS_sld rfl h1 e1 ?_
  refine mS_steps (pc' := 1282) (ls' := [.ref (mBIG + 100), .ref 0, .ref 279, .int i]) (st' := [.int s1, .ref 0]) (mem' := (mk x y)) 0 rfl ?_
  refine mS_call 267 2 [.ref 0, .int s1] [] rfl rfl rfl ⟨_, _, _, rfl, rfl⟩ (Nat.le_of_ble_eq_true rfl) (Nat.le_of_ble_eq_true rfl) hx (f_X10_hold_snd s1 x y) ?_
  refine mS_steps (pc' := 1290) (ls' := [.ref (mBIG + 100), .ref 0, .ref 279, .int i]) (st' := [.int (i + (1 : Int32)), .ref (mBIG + 100), .ref 279, .int r]) (mem' := (mk x2 y)) 5 rfl ?_
  refine mS_sld rfl h1 e1 ?_
  refine mS_steps (pc' := 1291) (ls' := [.ref (mBIG + 100), .ref 0, .ref 279, .int i]) (st' := [.int s1, .ref 279, .int r]) (mem' := (mk x2 y)) 0 rfl ?_
  refine mS_call 268 2 [.ref 279, .int s1] [.int r] rfl rfl rfl ⟨_, _, _, rfl, rfl⟩ (Nat.le_of_ble_eq_true rfl) (Nat.le_of_ble_eq_true rfl) hy (f_X11_hold_snd s1 y x2) ?_
  refine mS_steps (pc' := 1294) (ls' := [.ref (mBIG + 100), .ref 0, .ref 279, .int i]) (st' := [.int r, .int r]) (mem' := (mk x2 y2)) 0 rfl ?_
  exact mS_one (pc' := 1345) (ls' := [.ref (mBIG + 100), .ref 0, .ref 279, .int i]) (st' := []) (mem' := (mk x2 y2)) rfl (by decide) (by show some (bif decide (r = r) then _ else _, _, _, _) = _; rw [decide_eq_true rfl]; rfl) k
set_option maxRecDepth 20000 in
set_option maxHeartbeats 2000000 in
theorem law_c33 (hfm : fm = .null ∨ fm = .ref (mBIG + 200)) {i s1 s2 s3 s4 s5 r : Int32} {x x2 : mX} {y y2 : mY} {A : Option (mX × mY)} (h1 : m_in (i + 1) L = true) (e1 : xs (i + 1).toNatClampNeg = s1) (h2 : m_in (i + 2) L = true) (e2 : xs (i + 2).toNatClampNeg = s2) (h3 : m_in (i + 3) L = true) (e3 : xs (i + 3).toNatClampNeg = s3) (h4 : m_in (i + 4) L = true) (e4 : xs (i + 4).toNatClampNeg = s4) (h5 : m_in (i + 5) L = true) (e5 : xs (i + 5).toNatClampNeg = s5) (hx : m_callX 33 s1 s2 s3 s4 s5 x = some (r, x2)) (hy : m_callY 33 s1 s2 s3 s4 s5 y = some (r, y2)) (k : mS fm L xs m_gl pg_L_law 1345 [.ref (mBIG + 100), .ref 0, .ref 279, .int i] [] (mk x2 y2) A) : mS fm L xs m_gl pg_L_law 1299 [.ref (mBIG + 100), .ref 0, .ref 279, .int i] [] (mk x y) A := by
  have hx : (f_X10_restore s1 x) = some (r, x2) := hx
  have hy : (f_X11_restore s1 y) = some (r, y2) := hy
  refine mS_steps (pc' := 1304) (ls' := [.ref (mBIG + 100), .ref 0, .ref 279, .int i]) (st' := [.int (i + (1 : Int32)), .ref (mBIG + 100), .ref 0]) (mem' := (mk x y)) 5 rfl ?_
  refine mS_sld rfl h1 e1 ?_
  refine mS_steps (pc' := 1305) (ls' := [.ref (mBIG + 100), .ref 0, .ref 279, .int i]) (st' := [.int s1, .ref 0]) (mem' := (mk x y)) 0 rfl ?_
  refine mS_call 269 2 [.ref 0, .int s1] [] rfl rfl rfl ⟨_, _, _, rfl, rfl⟩ (Nat.le_of_ble_eq_true rfl) (Nat.le_of_ble_eq_true rfl) hx (f_X10_restore_snd s1 x y) ?_
  refine mS_steps (pc' := 1313) (ls' := [.ref (mBIG + 100), .ref 0, .ref 279, .int i]) (st' := [.int (i + (1 : Int32)), .ref (mBIG + 100), .ref 279, .int r]) (mem' := (mk x2 y)) 5 rfl ?_
  refine mS_sld rfl h1 e1 ?_
  refine mS_steps (pc' := 1314) (ls' := [.ref (mBIG + 100), .ref 0, .ref 279, .int i]) (st' := [.int s1, .ref 279, .int r]) (mem' := (mk x2 y)) 0 rfl ?_
  refine mS_call 270 2 [.ref 279, .int s1] [.int r] rfl rfl rfl ⟨_, _, _, rfl, rfl⟩ (Nat.le_of_ble_eq_true rfl) (Nat.le_of_ble_eq_true rfl) hy (f_X11_restore_snd s1 y x2) ?_
  refine mS_steps (pc' := 1317) (ls' := [.ref (mBIG + 100), .ref 0, .ref 279, .int i]) (st' := [.int r, .int r]) (mem' := (mk x2 y2)) 0 rfl ?_
  exact mS_one (pc' := 1345) (ls' := [.ref (mBIG + 100), .ref 0, .ref 279, .int i]) (st' := []) (mem' := (mk x2 y2)) rfl (by decide) (by show some (bif decide (r = r) then _ else _, _, _, _) = _; rw [decide_eq_true rfl]; rfl) k
set_option maxRecDepth 20000 in
set_option maxHeartbeats 2000000 in
theorem law_c34 (hfm : fm = .null ∨ fm = .ref (mBIG + 200)) {i s1 s2 s3 s4 s5 r : Int32} {x x2 : mX} {y y2 : mY} {A : Option (mX × mY)} (h1 : m_in (i + 1) L = true) (e1 : xs (i + 1).toNatClampNeg = s1) (h2 : m_in (i + 2) L = true) (e2 : xs (i + 2).toNatClampNeg = s2) (h3 : m_in (i + 3) L = true) (e3 : xs (i + 3).toNatClampNeg = s3) (h4 : m_in (i + 4) L = true) (e4 : xs (i + 4).toNatClampNeg = s4) (h5 : m_in (i + 5) L = true) (e5 : xs (i + 5).toNatClampNeg = s5) (hx : m_callX 34 s1 s2 s3 s4 s5 x = some (r, x2)) (hy : m_callY 34 s1 s2 s3 s4 s5 y = some (r, y2)) (k : mS fm L xs m_gl pg_L_law 1345 [.ref (mBIG + 100), .ref 0, .ref 279, .int i] [] (mk x2 y2) A) : mS fm L xs m_gl pg_L_law 1322 [.ref (mBIG + 100), .ref 0, .ref 279, .int i] [] (mk x y) A := by
  have hx : (f_X10_count s1 x) = some (r, x2) := hx
  have hy : (f_X11_count s1 y) = some (r, y2) := hy
  refine mS_steps (pc' := 1327) (ls' := [.ref (mBIG + 100), .ref 0, .ref 279, .int i]) (st' := [.int (i + (1 : Int32)), .ref (mBIG + 100), .ref 0]) (mem' := (mk x y)) 5 rfl ?_
  refine mS_sld rfl h1 e1 ?_
  refine mS_steps (pc' := 1328) (ls' := [.ref (mBIG + 100), .ref 0, .ref 279, .int i]) (st' := [.int s1, .ref 0]) (mem' := (mk x y)) 0 rfl ?_
  refine mS_call 273 2 [.ref 0, .int s1] [] rfl rfl rfl ⟨_, _, _, rfl, rfl⟩ (Nat.le_of_ble_eq_true rfl) (Nat.le_of_ble_eq_true rfl) hx (f_X10_count_snd s1 x y) ?_
  refine mS_steps (pc' := 1336) (ls' := [.ref (mBIG + 100), .ref 0, .ref 279, .int i]) (st' := [.int (i + (1 : Int32)), .ref (mBIG + 100), .ref 279, .int r]) (mem' := (mk x2 y)) 5 rfl ?_
  refine mS_sld rfl h1 e1 ?_
  refine mS_steps (pc' := 1337) (ls' := [.ref (mBIG + 100), .ref 0, .ref 279, .int i]) (st' := [.int s1, .ref 279, .int r]) (mem' := (mk x2 y)) 0 rfl ?_
  refine mS_call 275 2 [.ref 279, .int s1] [.int r] rfl rfl rfl ⟨_, _, _, rfl, rfl⟩ (Nat.le_of_ble_eq_true rfl) (Nat.le_of_ble_eq_true rfl) hy (f_X11_count_snd s1 y x2) ?_
  refine mS_steps (pc' := 1340) (ls' := [.ref (mBIG + 100), .ref 0, .ref 279, .int i]) (st' := [.int r, .int r]) (mem' := (mk x2 y2)) 0 rfl ?_
  exact mS_one (pc' := 1345) (ls' := [.ref (mBIG + 100), .ref 0, .ref 279, .int i]) (st' := []) (mem' := (mk x2 y2)) rfl (by decide) (by show some (bif decide (r = r) then _ else _, _, _, _) = _; rw [decide_eq_true rfl]; rfl) k
end ML
