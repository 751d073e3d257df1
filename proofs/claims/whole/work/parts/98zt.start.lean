/-! ===== the memory that the constructors leave (written by wip/whole/gen/gen21.py) ===== -/
def bldR : List (Nat × Nat) → Nat → Option Nat
  | [] => fun _ => none
  | p :: t => va_up (bldR t) p.1 (some p.2)
def ascR : List (Nat × Nat × Nat × Nat × Int) → Nat → List (Nat × Nat)
  | [], _ => []
  | (0, _, a, _, _) :: t, q => if a = q then [] else ascR t q
  | (1, _, _, a, _) :: t, q => if a = q then [] else ascR t q
  | (2, p, c, r, _) :: t, q => if p = q then (c, r) :: ascR t q else ascR t q
  | (_ + 3, _, _, _, _) :: t, q => ascR t q
theorem ascR_ok : ∀ l q, (m_opl l.reverse m_mem0).2.2.2 q = bldR (ascR l q)
  | [], q => rfl
  | (0, b, a, d, z) :: t, q => by
    have ih := ascR_ok t q
    rw [List.reverse_cons, m_opl_app]
    show va_up (m_opl t.reverse m_mem0).2.2.2 a (fun _ => none) q = bldR (if a = q then [] else ascR t q)
    by_cases e : a = q
    · subst e
      rw [if_pos rfl, m_up_eq]
      rfl
    · rw [if_neg e, m_up_ne _ _ (fun z => e z.symm)]
      exact ih
  | (1, b, n, a, z) :: t, q => by
    have ih := ascR_ok t q
    rw [List.reverse_cons, m_opl_app]
    show va_up (m_opl t.reverse m_mem0).2.2.2 a (fun _ => none) q = bldR (if a = q then [] else ascR t q)
    by_cases e : a = q
    · subst e
      rw [if_pos rfl, m_up_eq]
      rfl
    · rw [if_neg e, m_up_ne _ _ (fun z => e z.symm)]
      exact ih
  | (2, p, c, r, z) :: t, q => by
    have ih := ascR_ok t q
    rw [List.reverse_cons, m_opl_app]
    show va_up (m_opl t.reverse m_mem0).2.2.2 p (va_up ((m_opl t.reverse m_mem0).2.2.2 p) c (some r)) q = bldR (if p = q then (c, r) :: ascR t q else ascR t q)
    by_cases e : p = q
    · subst e
      rw [if_pos rfl, m_up_eq, ih]
      rfl
    · rw [if_neg e, m_up_ne _ _ (fun z => e z.symm)]
      exact ih
  | (n + 3, p, c, r, z) :: t, q => by
    have ih := ascR_ok t q
    rw [List.reverse_cons, m_opl_app]
    cases n with
    | zero => exact ih
    | succ n => exact ih
def oLtR (o : Nat × Nat × Nat × Nat × Int) : Bool := match o with
  | (0, _, a, _, _) => Nat.blt a 315
  | (1, _, _, a, _) => Nat.blt a 315
  | (2, p, _, _, _) => Nat.blt p 315
  | (_ + 3, _, _, _, _) => true
theorem blt_n {a q : Nat} (h : Nat.blt a 315 = true) (hq : 315 ≤ q) : ¬ a = q := fun e => by
  have h1 : a + 1 ≤ 315 := Nat.le_of_ble_eq_true h
  omega
theorem ascR_ge : ∀ l, (∀ o, o ∈ l → oLtR o = true) → ∀ q, 315 ≤ q → ascR l q = []
  | [], _, _, _ => rfl
  | (0, b, a, d, z) :: t, h, q, hq => by
    show (if a = q then [] else ascR t q) = []
    rw [if_neg (blt_n (h (0, b, a, d, z) (List.mem_cons_self ..)) hq)]
    exact ascR_ge t (fun o ho => h o (List.mem_cons_of_mem _ ho)) q hq
  | (1, b, n, a, z) :: t, h, q, hq => by
    show (if a = q then [] else ascR t q) = []
    rw [if_neg (blt_n (h (1, b, n, a, z) (List.mem_cons_self ..)) hq)]
    exact ascR_ge t (fun o ho => h o (List.mem_cons_of_mem _ ho)) q hq
  | (2, p, c, r, z) :: t, h, q, hq => by
    show (if p = q then (c, r) :: ascR t q else ascR t q) = []
    rw [if_neg (blt_n (h (2, p, c, r, z) (List.mem_cons_self ..)) hq)]
    exact ascR_ge t (fun o ho => h o (List.mem_cons_of_mem _ ho)) q hq
  | (n + 3, p, c, r, z) :: t, h, q, hq => ascR_ge t (fun o ho => h o (List.mem_cons_of_mem _ ho)) q hq
theorem getD_mp {α β : Type} {f : α → β} {d : α} : ∀ (l : List α) (q : Nat), (l.map f).getD q (f d) = f (l.getD q d)
  | [], _ => rfl
  | _ :: _, 0 => rfl
  | _ :: t, q + 1 => getD_mp t q
theorem getD_hi {α : Type} {d : α} : ∀ (l : List α) (q : Nat), l.length ≤ q → l.getD q d = d
  | [], _, _ => rfl
  | _ :: t, 0, h => absurd h (Nat.not_le_of_gt (Nat.succ_pos _))
  | _ :: t, q + 1, h => getD_hi t q (Nat.le_of_succ_le_succ h)
def mRD0 : List (List (Nat × Nat)) := [[(15, 256), (14, 254), (13, 253), (12, 251), (11, 245), (10, 240), (9, 234), (7, 228), (5, 222), (3, 221), (2, 19), (1, 14), (0, 1)], [], [(13, 6), (12, 5), (11, 4), (10, 3)], [], [], [], [], [], [], [], [], [], [], [], [(13, 18), (12, 17), (11, 16), (10, 15)], [], [], [], [], [(2, 20)], [(39, 216), (38, 211), (37, 206), (36, 201), (35, 196), (34, 191), (33, 186), (32, 181), (31, 176), (30, 171), (29, 166), (28, 161), (27, 156), (26, 151), (25, 146), (24, 141), (23, 136), (22, 131), (21, 126), (20, 121), (19, 116), (18, 111), (17, 106), (16, 101), (15, 96), (14, 91), (13, 86), (12, 81), (11, 76), (10, 71), (9, 66), (8, 61), (7, 56), (6, 51), (5, 46), (4, 41), (3, 36), (2, 31), (1, 26), (0, 21)], [(13, 25), (12, 24), (11, 23), (10, 22)], [], [], [], [], [(13, 30), (12, 29), (11, 28), (10, 27)], [], [], [], [], [(13, 35), (12, 34), (11, 33), (10, 32)], [], [], [], [], [(13, 40), (12, 39), (11, 38), (10, 37)], [], [], [], [], [(13, 45), (12, 44), (11, 43), (10, 42)], [], [], [], [], [(13, 50), (12, 49), (11, 48), (10, 47)], [], [], [], [], [(13, 55), (12, 54), (11, 53), (10, 52)], [], [], [], [], [(13, 60), (12, 59), (11, 58), (10, 57)], [], [], [], [], [(13, 65), (12, 64), (11, 63), (10, 62)], []]
def mRD1 : List (List (Nat × Nat)) := [[], [], [], [(13, 70), (12, 69), (11, 68), (10, 67)], [], [], [], [], [(13, 75), (12, 74), (11, 73), (10, 72)], [], [], [], [], [(13, 80), (12, 79), (11, 78), (10, 77)], [], [], [], [], [(13, 85), (12, 84), (11, 83), (10, 82)], [], [], [], [], [(13, 90), (12, 89), (11, 88), (10, 87)], [], [], [], [], [(13, 95), (12, 94), (11, 93), (10, 92)], [], [], [], [], [(13, 100), (12, 99), (11, 98), (10, 97)], [], [], [], [], [(13, 105), (12, 104), (11, 103), (10, 102)], [], [], [], [], [(13, 110), (12, 109), (11, 108), (10, 107)], [], [], [], [], [(13, 115), (12, 114), (11, 113), (10, 112)], [], [], [], [], [(13, 120), (12, 119), (11, 118), (10, 117)], [], [], [], [], [(13, 125), (12, 124), (11, 123), (10, 122)], [], [], [], []]
def mRD2 : List (List (Nat × Nat)) := [[(13, 130), (12, 129), (11, 128), (10, 127)], [], [], [], [], [(13, 135), (12, 134), (11, 133), (10, 132)], [], [], [], [], [(13, 140), (12, 139), (11, 138), (10, 137)], [], [], [], [], [(13, 145), (12, 144), (11, 143), (10, 142)], [], [], [], [], [(13, 150), (12, 149), (11, 148), (10, 147)], [], [], [], [], [(13, 155), (12, 154), (11, 153), (10, 152)], [], [], [], [], [(13, 160), (12, 159), (11, 158), (10, 157)], [], [], [], [], [(13, 165), (12, 164), (11, 163), (10, 162)], [], [], [], [], [(13, 170), (12, 169), (11, 168), (10, 167)], [], [], [], [], [(13, 175), (12, 174), (11, 173), (10, 172)], [], [], [], [], [(13, 180), (12, 179), (11, 178), (10, 177)], [], [], [], [], [(13, 185), (12, 184), (11, 183), (10, 182)], [], [], [], [], [(13, 190), (12, 189), (11, 188), (10, 187)], [], []]
def mRD3 : List (List (Nat × Nat)) := [[], [], [(13, 195), (12, 194), (11, 193), (10, 192)], [], [], [], [], [(13, 200), (12, 199), (11, 198), (10, 197)], [], [], [], [], [(13, 205), (12, 204), (11, 203), (10, 202)], [], [], [], [], [(13, 210), (12, 209), (11, 208), (10, 207)], [], [], [], [], [(13, 215), (12, 214), (11, 213), (10, 212)], [], [], [], [], [(13, 220), (12, 219), (11, 218), (10, 217)], [], [], [], [], [(2, 274), (1, 269), (0, 264)], [(6, 227), (5, 226), (4, 225), (2, 224), (1, 223)], [], [], [], [], [], [(6, 233), (5, 232), (4, 231), (2, 230), (1, 229)], [], [], [], [], [], [(6, 239), (5, 238), (4, 237), (3, 236), (1, 235)], [], [], [], [], [], [(3, 244), (2, 243), (1, 242), (0, 241)], [], [], [], [], [(8, 250), (5, 249), (4, 248), (3, 247), (2, 246)], [], [], [], [], [], [(4, 252)]]
def mRD4 : List (List (Nat × Nat)) := [[], [], [(0, 255)], [], [(3, 258), (1, 257)], [], [(6, 263), (5, 262), (4, 261), (2, 260), (1, 259)], [], [], [], [], [], [(13, 268), (12, 267), (11, 266), (10, 265)], [], [], [], [], [(13, 273), (12, 272), (11, 271), (10, 270)], [], [], [], [], [(13, 278), (12, 277), (11, 276), (10, 275)], [], [], [], [], [(63, 314), (61, 313), (60, 312), (59, 311), (58, 310), (57, 309), (52, 308), (47, 307), (45, 306), (44, 305), (43, 304), (42, 303), (41, 302), (40, 301), (39, 300), (38, 299), (37, 298), (36, 297), (35, 296), (33, 295), (32, 294), (31, 293), (29, 292), (28, 291), (25, 290), (24, 289), (23, 288), (22, 287), (9, 286), (8, 285), (7, 284), (6, 283), (5, 282), (3, 281), (1, 280)], [], [], [], [], [], [], [], [], [], [], [], [], [], [], [], [], [], [], [], [], [], [], [], [], [], [], [], [], [], [], [], [], [], [], []]
def mRD : List (List (Nat × Nat)) := mRD0 ++ mRD1 ++ mRD2 ++ mRD3 ++ mRD4
set_option maxRecDepth 20000 in
theorem mRL_eq : mRL = mRD.map bldR := rfl
def plEq (l r : List (Nat × Nat)) : Bool := decide (l = r)
theorem plEq_ok {l r : List (Nat × Nat)} (h : plEq l r = true) : l = r := of_decide_eq_true h
set_option maxRecDepth 20000 in
theorem ops_rev : OPS.take 637 = OPS.reverse.reverse := by decide +kernel
theorem mMk_r : mMk 637 = m_opl OPS.reverse.reverse m_mem0 := by
  unfold mMk
  rw [ops_rev]
set_option maxRecDepth 20000 in
theorem asc_all : ∀ q, q < 315 → (q = 1 ∨ plEq (ascR OPS.reverse q) (mRD.getD q []) = true) := by decide +kernel
set_option maxRecDepth 20000 in
theorem asc_1 : ascR OPS.reverse 1 = [(15, 13), (14, 12), (13, 11), (8, 1000000), (7, 10), (6, 9), (5, 8), (3, 7), (2, 2)] := by decide +kernel
set_option maxRecDepth 20000 in
theorem ops_lt : ∀ o, o ∈ OPS.reverse → oLtR o = true := fun o ho => List.all_eq_true.mp (show OPS.reverse.all oLtR = true by decide +kernel) o ho
theorem mRD_len : mRD.length = 315 := by decide +kernel
theorem refs_ok : (mMk 637).2.2.2 = mRR 0 := by
  funext q
  rw [mMk_r, ascR_ok]
  unfold mRR
  by_cases q1 : q = 1
  · subst q1
    rw [if_pos rfl, asc_1]
    rfl
  · rw [if_neg q1, mRL_eq]
    show _ = (mRD.map bldR).getD q (bldR [])
    rw [getD_mp]
    by_cases h : q < 315
    · rw [plEq_ok ((asc_all q h).resolve_left q1)]
    · rw [ascR_ge _ ops_lt q (by omega), getD_hi mRD q (by rw [mRD_len]; omega)]
set_option maxRecDepth 20000 in
theorem shapes_ok : (mMk 637).1 = mSH := by decide +kernel
