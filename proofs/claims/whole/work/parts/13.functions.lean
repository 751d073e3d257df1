/-! ===== stage B: the small machine as functions over the class's memory and the reference's ===== -/
/-- the class's memory: ints, longs, the number of the text in Reader.shape; the reference's: ints, longs -/
abbrev mX : Type := (Nat → Nat → Int32) × (Nat → Nat → Int64) × Nat
abbrev mY : Type := (Nat → Nat → Int32) × (Nat → Nat → Int64)
def mSH : List (Nat × Nat) := [(10, 16), (5, 17), (6, 14), (100, 16), (100, 16), (100, 16), (100, 16), (102, 2000), (100, 400), (100, 400), (101, 400), (101, 8), (100, 8), (100, 8), (6, 14), (100, 16), (100, 16), (100, 16), (100, 16), (2, 3), (104, 40), (6, 14), (100, 16), (100, 16), (100, 16), (100, 16), (6, 14), (100, 16), (100, 16), (100, 16), (100, 16), (6, 14), (100, 16), (100, 16), (100, 16), (100, 16), (6, 14), (100, 16), (100, 16), (100, 16), (100, 16), (6, 14), (100, 16), (100, 16), (100, 16), (100, 16), (6, 14), (100, 16), (100, 16), (100, 16), (100, 16), (6, 14), (100, 16), (100, 16), (100, 16), (100, 16), (6, 14), (100, 16), (100, 16), (100, 16), (100, 16), (6, 14), (100, 16), (100, 16), (100, 16), (100, 16), (6, 14), (100, 16), (100, 16), (100, 16), (100, 16), (6, 14), (100, 16), (100, 16), (100, 16), (100, 16), (6, 14), (100, 16), (100, 16), (100, 16), (100, 16), (6, 14), (100, 16), (100, 16), (100, 16), (100, 16), (6, 14), (100, 16), (100, 16), (100, 16), (100, 16), (6, 14), (100, 16), (100, 16), (100, 16), (100, 16), (6, 14), (100, 16), (100, 16), (100, 16), (100, 16), (6, 14), (100, 16), (100, 16), (100, 16), (100, 16), (6, 14), (100, 16), (100, 16), (100, 16), (100, 16), (6, 14), (100, 16), (100, 16), (100, 16), (100, 16), (6, 14), (100, 16), (100, 16), (100, 16), (100, 16), (6, 14), (100, 16), (100, 16), (100, 16), (100, 16), (6, 14), (100, 16), (100, 16), (100, 16), (100, 16), (6, 14), (100, 16), (100, 16), (100, 16), (100, 16), (6, 14), (100, 16), (100, 16), (100, 16), (100, 16), (6, 14), (100, 16), (100, 16), (100, 16), (100, 16), (6, 14), (100, 16), (100, 16), (100, 16), (100, 16), (6, 14), (100, 16), (100, 16), (100, 16), (100, 16), (6, 14), (100, 16), (100, 16), (100, 16), (100, 16), (6, 14), (100, 16), (100, 16), (100, 16), (100, 16), (6, 14), (100, 16), (100, 16), (100, 16), (100, 16), (6, 14), (100, 16), (100, 16), (100, 16), (100, 16), (6, 14), (100, 16), (100, 16), (100, 16), (100, 16), (6, 14), (100, 16), (100, 16), (100, 16), (100, 16), (6, 14), (100, 16), (100, 16), (100, 16), (100, 16), (6, 14), (100, 16), (100, 16), (100, 16), (100, 16), (6, 14), (100, 16), (100, 16), (100, 16), (100, 16), (6, 14), (100, 16), (100, 16), (100, 16), (100, 16), (6, 14), (100, 16), (100, 16), (100, 16), (100, 16), (6, 14), (100, 16), (100, 16), (100, 16), (100, 16), (6, 14), (100, 16), (100, 16), (100, 16), (100, 16), (104, 3), (3, 7), (100, 8), (100, 8), (100, 64), (100, 64), (100, 8), (3, 7), (100, 8), (100, 8), (100, 64), (100, 64), (100, 8), (7, 7), (100, 8), (100, 64), (100, 64), (100, 128), (100, 128), (9, 5), (100, 8), (100, 8), (100, 8), (100, 8), (0, 9), (100, 48), (100, 17), (100, 8), (100, 8), (100, 8), (8, 5), (100, 16), (100, 16), (4, 1), (100, 8), (1, 4), (100, 4), (3, 7), (100, 8), (100, 8), (100, 64), (100, 64), (100, 8), (6, 14), (100, 16), (100, 16), (100, 16), (100, 16), (6, 14), (100, 16), (100, 16), (100, 16), (100, 16), (6, 14), (100, 16), (100, 16), (100, 16), (100, 16), (11, 64), (102, 2000), (102, 2000), (100, 403), (100, 403), (100, 403), (101, 403), (101, 5), (101, 8), (100, 72), (100, 72), (100, 2880), (100, 216), (103, 3), (100, 24), (103, 256), (100, 28), (100, 64), (100, 64), (100, 64), (100, 512), (100, 64), (100, 64), (100, 8), (100, 8), (100, 8), (100, 160), (100, 16), (100, 8), (100, 8), (100, 32), (100, 16), (100, 2048), (100, 256), (100, 28), (100, 4)]
def mRL : List (Nat → Option Nat) := [(va_up (va_up (va_up (va_up (va_up (va_up (va_up (va_up (va_up (va_up (va_up (va_up (va_up (fun _ => none) 0 (some 1)) 1 (some 14)) 2 (some 19)) 3 (some 221)) 5 (some 222)) 7 (some 228)) 9 (some 234)) 10 (some 240)) 11 (some 245)) 12 (some 251)) 13 (some 253)) 14 (some 254)) 15 (some 256)), (fun _ => none), (va_up (va_up (va_up (va_up (fun _ => none) 10 (some 3)) 11 (some 4)) 12 (some 5)) 13 (some 6)), (fun _ => none), (fun _ => none), (fun _ => none), (fun _ => none), (fun _ => none), (fun _ => none), (fun _ => none), (fun _ => none), (fun _ => none), (fun _ => none), (fun _ => none), (va_up (va_up (va_up (va_up (fun _ => none) 10 (some 15)) 11 (some 16)) 12 (some 17)) 13 (some 18)), (fun _ => none), (fun _ => none), (fun _ => none), (fun _ => none), (va_up (fun _ => none) 2 (some 20)), (va_up (va_up (va_up (va_up (va_up (va_up (va_up (va_up (va_up (va_up (va_up (va_up (va_up (va_up (va_up (va_up (va_up (va_up (va_up (va_up (va_up (va_up (va_up (va_up (va_up (va_up (va_up (va_up (va_up (va_up (va_up (va_up (va_up (va_up (va_up (va_up (va_up (va_up (va_up (va_up (fun _ => none) 0 (some 21)) 1 (some 26)) 2 (some 31)) 3 (some 36)) 4 (some 41)) 5 (some 46)) 6 (some 51)) 7 (some 56)) 8 (some 61)) 9 (some 66)) 10 (some 71)) 11 (some 76)) 12 (some 81)) 13 (some 86)) 14 (some 91)) 15 (some 96)) 16 (some 101)) 17 (some 106)) 18 (some 111)) 19 (some 116)) 20 (some 121)) 21 (some 126)) 22 (some 131)) 23 (some 136)) 24 (some 141)) 25 (some 146)) 26 (some 151)) 27 (some 156)) 28 (some 161)) 29 (some 166)) 30 (some 171)) 31 (some 176)) 32 (some 181)) 33 (some 186)) 34 (some 191)) 35 (some 196)) 36 (some 201)) 37 (some 206)) 38 (some 211)) 39 (some 216)), (va_up (va_up (va_up (va_up (fun _ => none) 10 (some 22)) 11 (some 23)) 12 (some 24)) 13 (some 25)), (fun _ => none), (fun _ => none), (fun _ => none), (fun _ => none), (va_up (va_up (va_up (va_up (fun _ => none) 10 (some 27)) 11 (some 28)) 12 (some 29)) 13 (some 30)), (fun _ => none), (fun _ => none), (fun _ => none), (fun _ => none), (va_up (va_up (va_up (va_up (fun _ => none) 10 (some 32)) 11 (some 33)) 12 (some 34)) 13 (some 35)), (fun _ => none), (fun _ => none), (fun _ => none), (fun _ => none), (va_up (va_up (va_up (va_up (fun _ => none) 10 (some 37)) 11 (some 38)) 12 (some 39)) 13 (some 40)), (fun _ => none), (fun _ => none), (fun _ => none), (fun _ => none), (va_up (va_up (va_up (va_up (fun _ => none) 10 (some 42)) 11 (some 43)) 12 (some 44)) 13 (some 45)), (fun _ => none), (fun _ => none), (fun _ => none), (fun _ => none), (va_up (va_up (va_up (va_up (fun _ => none) 10 (some 47)) 11 (some 48)) 12 (some 49)) 13 (some 50)), (fun _ => none), (fun _ => none), (fun _ => none), (fun _ => none), (va_up (va_up (va_up (va_up (fun _ => none) 10 (some 52)) 11 (some 53)) 12 (some 54)) 13 (some 55)), (fun _ => none), (fun _ => none), (fun _ => none), (fun _ => none), (va_up (va_up (va_up (va_up (fun _ => none) 10 (some 57)) 11 (some 58)) 12 (some 59)) 13 (some 60)), (fun _ => none), (fun _ => none), (fun _ => none), (fun _ => none), (va_up (va_up (va_up (va_up (fun _ => none) 10 (some 62)) 11 (some 63)) 12 (some 64)) 13 (some 65)), (fun _ => none), (fun _ => none), (fun _ => none), (fun _ => none), (va_up (va_up (va_up (va_up (fun _ => none) 10 (some 67)) 11 (some 68)) 12 (some 69)) 13 (some 70)), (fun _ => none), (fun _ => none), (fun _ => none), (fun _ => none), (va_up (va_up (va_up (va_up (fun _ => none) 10 (some 72)) 11 (some 73)) 12 (some 74)) 13 (some 75)), (fun _ => none), (fun _ => none), (fun _ => none), (fun _ => none), (va_up (va_up (va_up (va_up (fun _ => none) 10 (some 77)) 11 (some 78)) 12 (some 79)) 13 (some 80)), (fun _ => none), (fun _ => none), (fun _ => none), (fun _ => none), (va_up (va_up (va_up (va_up (fun _ => none) 10 (some 82)) 11 (some 83)) 12 (some 84)) 13 (some 85)), (fun _ => none), (fun _ => none), (fun _ => none), (fun _ => none), (va_up (va_up (va_up (va_up (fun _ => none) 10 (some 87)) 11 (some 88)) 12 (some 89)) 13 (some 90)), (fun _ => none), (fun _ => none), (fun _ => none), (fun _ => none), (va_up (va_up (va_up (va_up (fun _ => none) 10 (some 92)) 11 (some 93)) 12 (some 94)) 13 (some 95)), (fun _ => none), (fun _ => none), (fun _ => none), (fun _ => none), (va_up (va_up (va_up (va_up (fun _ => none) 10 (some 97)) 11 (some 98)) 12 (some 99)) 13 (some 100)), (fun _ => none), (fun _ => none), (fun _ => none), (fun _ => none), (va_up (va_up (va_up (va_up (fun _ => none) 10 (some 102)) 11 (some 103)) 12 (some 104)) 13 (some 105)), (fun _ => none), (fun _ => none), (fun _ => none), (fun _ => none), (va_up (va_up (va_up (va_up (fun _ => none) 10 (some 107)) 11 (some 108)) 12 (some 109)) 13 (some 110)), (fun _ => none), (fun _ => none), (fun _ => none), (fun _ => none), (va_up (va_up (va_up (va_up (fun _ => none) 10 (some 112)) 11 (some 113)) 12 (some 114)) 13 (some 115)), (fun _ => none), (fun _ => none), (fun _ => none), (fun _ => none), (va_up (va_up (va_up (va_up (fun _ => none) 10 (some 117)) 11 (some 118)) 12 (some 119)) 13 (some 120)), (fun _ => none), (fun _ => none), (fun _ => none), (fun _ => none), (va_up (va_up (va_up (va_up (fun _ => none) 10 (some 122)) 11 (some 123)) 12 (some 124)) 13 (some 125)), (fun _ => none), (fun _ => none), (fun _ => none), (fun _ => none), (va_up (va_up (va_up (va_up (fun _ => none) 10 (some 127)) 11 (some 128)) 12 (some 129)) 13 (some 130)), (fun _ => none), (fun _ => none), (fun _ => none), (fun _ => none), (va_up (va_up (va_up (va_up (fun _ => none) 10 (some 132)) 11 (some 133)) 12 (some 134)) 13 (some 135)), (fun _ => none), (fun _ => none), (fun _ => none), (fun _ => none), (va_up (va_up (va_up (va_up (fun _ => none) 10 (some 137)) 11 (some 138)) 12 (some 139)) 13 (some 140)), (fun _ => none), (fun _ => none), (fun _ => none), (fun _ => none), (va_up (va_up (va_up (va_up (fun _ => none) 10 (some 142)) 11 (some 143)) 12 (some 144)) 13 (some 145)), (fun _ => none), (fun _ => none), (fun _ => none), (fun _ => none), (va_up (va_up (va_up (va_up (fun _ => none) 10 (some 147)) 11 (some 148)) 12 (some 149)) 13 (some 150)), (fun _ => none), (fun _ => none), (fun _ => none), (fun _ => none), (va_up (va_up (va_up (va_up (fun _ => none) 10 (some 152)) 11 (some 153)) 12 (some 154)) 13 (some 155)), (fun _ => none), (fun _ => none), (fun _ => none), (fun _ => none), (va_up (va_up (va_up (va_up (fun _ => none) 10 (some 157)) 11 (some 158)) 12 (some 159)) 13 (some 160)), (fun _ => none), (fun _ => none), (fun _ => none), (fun _ => none), (va_up (va_up (va_up (va_up (fun _ => none) 10 (some 162)) 11 (some 163)) 12 (some 164)) 13 (some 165)), (fun _ => none), (fun _ => none), (fun _ => none), (fun _ => none), (va_up (va_up (va_up (va_up (fun _ => none) 10 (some 167)) 11 (some 168)) 12 (some 169)) 13 (some 170)), (fun _ => none), (fun _ => none), (fun _ => none), (fun _ => none), (va_up (va_up (va_up (va_up (fun _ => none) 10 (some 172)) 11 (some 173)) 12 (some 174)) 13 (some 175)), (fun _ => none), (fun _ => none), (fun _ => none), (fun _ => none), (va_up (va_up (va_up (va_up (fun _ => none) 10 (some 177)) 11 (some 178)) 12 (some 179)) 13 (some 180)), (fun _ => none), (fun _ => none), (fun _ => none), (fun _ => none), (va_up (va_up (va_up (va_up (fun _ => none) 10 (some 182)) 11 (some 183)) 12 (some 184)) 13 (some 185)), (fun _ => none), (fun _ => none), (fun _ => none), (fun _ => none), (va_up (va_up (va_up (va_up (fun _ => none) 10 (some 187)) 11 (some 188)) 12 (some 189)) 13 (some 190)), (fun _ => none), (fun _ => none), (fun _ => none), (fun _ => none), (va_up (va_up (va_up (va_up (fun _ => none) 10 (some 192)) 11 (some 193)) 12 (some 194)) 13 (some 195)), (fun _ => none), (fun _ => none), (fun _ => none), (fun _ => none), (va_up (va_up (va_up (va_up (fun _ => none) 10 (some 197)) 11 (some 198)) 12 (some 199)) 13 (some 200)), (fun _ => none), (fun _ => none), (fun _ => none), (fun _ => none), (va_up (va_up (va_up (va_up (fun _ => none) 10 (some 202)) 11 (some 203)) 12 (some 204)) 13 (some 205)), (fun _ => none), (fun _ => none), (fun _ => none), (fun _ => none), (va_up (va_up (va_up (va_up (fun _ => none) 10 (some 207)) 11 (some 208)) 12 (some 209)) 13 (some 210)), (fun _ => none), (fun _ => none), (fun _ => none), (fun _ => none), (va_up (va_up (va_up (va_up (fun _ => none) 10 (some 212)) 11 (some 213)) 12 (some 214)) 13 (some 215)), (fun _ => none), (fun _ => none), (fun _ => none), (fun _ => none), (va_up (va_up (va_up (va_up (fun _ => none) 10 (some 217)) 11 (some 218)) 12 (some 219)) 13 (some 220)), (fun _ => none), (fun _ => none), (fun _ => none), (fun _ => none), (va_up (va_up (va_up (fun _ => none) 0 (some 264)) 1 (some 269)) 2 (some 274)), (va_up (va_up (va_up (va_up (va_up (fun _ => none) 1 (some 223)) 2 (some 224)) 4 (some 225)) 5 (some 226)) 6 (some 227)), (fun _ => none), (fun _ => none), (fun _ => none), (fun _ => none), (fun _ => none), (va_up (va_up (va_up (va_up (va_up (fun _ => none) 1 (some 229)) 2 (some 230)) 4 (some 231)) 5 (some 232)) 6 (some 233)), (fun _ => none), (fun _ => none), (fun _ => none), (fun _ => none), (fun _ => none), (va_up (va_up (va_up (va_up (va_up (fun _ => none) 1 (some 235)) 3 (some 236)) 4 (some 237)) 5 (some 238)) 6 (some 239)), (fun _ => none), (fun _ => none), (fun _ => none), (fun _ => none), (fun _ => none), (va_up (va_up (va_up (va_up (fun _ => none) 0 (some 241)) 1 (some 242)) 2 (some 243)) 3 (some 244)), (fun _ => none), (fun _ => none), (fun _ => none), (fun _ => none), (va_up (va_up (va_up (va_up (va_up (fun _ => none) 2 (some 246)) 3 (some 247)) 4 (some 248)) 5 (some 249)) 8 (some 250)), (fun _ => none), (fun _ => none), (fun _ => none), (fun _ => none), (fun _ => none), (va_up (fun _ => none) 4 (some 252)), (fun _ => none), (fun _ => none), (va_up (fun _ => none) 0 (some 255)), (fun _ => none), (va_up (va_up (fun _ => none) 1 (some 257)) 3 (some 258)), (fun _ => none), (va_up (va_up (va_up (va_up (va_up (fun _ => none) 1 (some 259)) 2 (some 260)) 4 (some 261)) 5 (some 262)) 6 (some 263)), (fun _ => none), (fun _ => none), (fun _ => none), (fun _ => none), (fun _ => none), (va_up (va_up (va_up (va_up (fun _ => none) 10 (some 265)) 11 (some 266)) 12 (some 267)) 13 (some 268)), (fun _ => none), (fun _ => none), (fun _ => none), (fun _ => none), (va_up (va_up (va_up (va_up (fun _ => none) 10 (some 270)) 11 (some 271)) 12 (some 272)) 13 (some 273)), (fun _ => none), (fun _ => none), (fun _ => none), (fun _ => none), (va_up (va_up (va_up (va_up (fun _ => none) 10 (some 275)) 11 (some 276)) 12 (some 277)) 13 (some 278)), (fun _ => none), (fun _ => none), (fun _ => none), (fun _ => none), (va_up (va_up (va_up (va_up (va_up (va_up (va_up (va_up (va_up (va_up (va_up (va_up (va_up (va_up (va_up (va_up (va_up (va_up (va_up (va_up (va_up (va_up (va_up (va_up (va_up (va_up (va_up (va_up (va_up (va_up (va_up (va_up (va_up (va_up (va_up (fun _ => none) 1 (some 280)) 3 (some 281)) 5 (some 282)) 6 (some 283)) 7 (some 284)) 8 (some 285)) 9 (some 286)) 22 (some 287)) 23 (some 288)) 24 (some 289)) 25 (some 290)) 28 (some 291)) 29 (some 292)) 31 (some 293)) 32 (some 294)) 33 (some 295)) 35 (some 296)) 36 (some 297)) 37 (some 298)) 38 (some 299)) 39 (some 300)) 40 (some 301)) 41 (some 302)) 42 (some 303)) 43 (some 304)) 44 (some 305)) 45 (some 306)) 47 (some 307)) 52 (some 308)) 57 (some 309)) 58 (some 310)) 59 (some 311)) 60 (some 312)) 61 (some 313)) 63 (some 314)), (fun _ => none), (fun _ => none), (fun _ => none), (fun _ => none), (fun _ => none), (fun _ => none), (fun _ => none), (fun _ => none), (fun _ => none), (fun _ => none), (fun _ => none), (fun _ => none), (fun _ => none), (fun _ => none), (fun _ => none), (fun _ => none), (fun _ => none), (fun _ => none), (fun _ => none), (fun _ => none), (fun _ => none), (fun _ => none), (fun _ => none), (fun _ => none), (fun _ => none), (fun _ => none), (fun _ => none), (fun _ => none), (fun _ => none), (fun _ => none), (fun _ => none), (fun _ => none), (fun _ => none), (fun _ => none), (fun _ => none)]
def mR1 (j : Nat) : Nat → Option Nat := (va_up (va_up (va_up (va_up (va_up (va_up (va_up (va_up (va_up (fun _ => none) 2 (some 2)) 3 (some 7)) 5 (some 8)) 6 (some 9)) 7 (some 10)) 8 (some (mBIG + j))) 13 (some 11)) 14 (some 12)) 15 (some 13))
def mRR (j q : Nat) : Nat → Option Nat := if q = 1 then mR1 j else mRL.getD q (fun _ => none)
def mk (x : mX) (y : mY) : mM := (mSH, fun q => if q < 279 then x.1 q else y.1 q, fun q => if q < 279 then x.2.1 q else y.2 q, mRR x.2.2)
def m_xs (x : mX) (q c : Nat) (v : Int32) : mX := (va_up x.1 q (va_up (x.1 q) c v), x.2.1, x.2.2)
def m_xl (x : mX) (q c : Nat) (v : Int64) : mX := (x.1, va_up x.2.1 q (va_up (x.2.1 q) c v), x.2.2)
def m_xt (x : mX) (j : Nat) : mX := (x.1, x.2.1, j)
def m_ys (y : mY) (q c : Nat) (v : Int32) : mY := (va_up y.1 q (va_up (y.1 q) c v), y.2)
def m_yl (y : mY) (q c : Nat) (v : Int64) : mY := (y.1, va_up y.2 q (va_up (y.2 q) c v))
theorem m_up_x {α : Type} (f g : Nat → Nat → α) {q : Nat} (h : Nat → α) (hq : q < 279) : va_up (fun k => if k < 279 then f k else g k) q h = fun k => if k < 279 then va_up f q h k else g k := by
  funext k
  unfold va_up
  by_cases e : k = q
  · subst e; rw [if_pos rfl, if_pos hq, if_pos rfl]
  · rw [if_neg e, if_neg e]
theorem m_up_y {α : Type} (f g : Nat → Nat → α) {q : Nat} (h : Nat → α) (hq : ¬ q < 279) : va_up (fun k => if k < 279 then f k else g k) q h = fun k => if k < 279 then f k else va_up g q h k := by
  funext k
  unfold va_up
  by_cases e : k = q
  · subst e; rw [if_pos rfl, if_neg hq, if_pos rfl]
  · rw [if_neg e, if_neg e]
theorem mk_xs (x : mX) (y : mY) {q : Nat} (c : Nat) (v : Int32) (hq : q < 279) : ((mk x y).1, va_up (mk x y).2.1 q (va_up ((mk x y).2.1 q) c v), (mk x y).2.2.1, (mk x y).2.2.2) = mk (m_xs x q c v) y := by
  have e : (mk x y).2.1 q = x.1 q := by show (if q < 279 then x.1 q else y.1 q) = _; rw [if_pos hq]
  rw [e]
  show (mSH, va_up (fun k => if k < 279 then x.1 k else y.1 k) q _, _, _) = _
  rw [m_up_x _ _ _ hq]
  rfl
theorem mk_xl (x : mX) (y : mY) {q : Nat} (c : Nat) (v : Int64) (hq : q < 279) : ((mk x y).1, (mk x y).2.1, va_up (mk x y).2.2.1 q (va_up ((mk x y).2.2.1 q) c v), (mk x y).2.2.2) = mk (m_xl x q c v) y := by
  have e : (mk x y).2.2.1 q = x.2.1 q := by show (if q < 279 then x.2.1 q else y.2 q) = _; rw [if_pos hq]
  rw [e]
  show (mSH, _, va_up (fun k => if k < 279 then x.2.1 k else y.2 k) q _, _) = _
  rw [m_up_x _ _ _ hq]
  rfl
theorem mk_ys (x : mX) (y : mY) {q : Nat} (c : Nat) (v : Int32) (hq : ¬ q < 279) : ((mk x y).1, va_up (mk x y).2.1 q (va_up ((mk x y).2.1 q) c v), (mk x y).2.2.1, (mk x y).2.2.2) = mk x (m_ys y q c v) := by
  have e : (mk x y).2.1 q = y.1 q := by show (if q < 279 then x.1 q else y.1 q) = _; rw [if_neg hq]
  rw [e]
  show (mSH, va_up (fun k => if k < 279 then x.1 k else y.1 k) q _, _, _) = _
  rw [m_up_y _ _ _ hq]
  rfl
theorem mk_yl (x : mX) (y : mY) {q : Nat} (c : Nat) (v : Int64) (hq : ¬ q < 279) : ((mk x y).1, (mk x y).2.1, va_up (mk x y).2.2.1 q (va_up ((mk x y).2.2.1 q) c v), (mk x y).2.2.2) = mk x (m_yl y q c v) := by
  have e : (mk x y).2.2.1 q = y.2 q := by show (if q < 279 then x.2.1 q else y.2 q) = _; rw [if_neg hq]
  rw [e]
  show (mSH, _, va_up (fun k => if k < 279 then x.2.1 k else y.2 k) q _, _) = _
  rw [m_up_y _ _ _ hq]
  rfl
theorem mk_xt (x : mX) (y : mY) (j : Nat) : ((mk x y).1, (mk x y).2.1, (mk x y).2.2.1, va_up (mk x y).2.2.2 1 (va_up ((mk x y).2.2.2 1) 8 (some (mBIG + j)))) = mk (m_xt x j) y := by
  have e : va_up (mRR x.2.2) 1 (va_up (mRR x.2.2 1) 8 (some (mBIG + j))) = mRR j := by
    funext q
    unfold mRR
    by_cases h : q = 1
    · subst h
      rw [m_up_eq, if_pos rfl, if_pos rfl]
      funext c
      unfold mR1
      by_cases hc : c = 8
      · subst hc; rw [m_up_eq]; rfl
      · rw [m_up_ne _ _ hc]
        simp only [va_up, hc, if_false]
    · rw [m_up_ne _ _ h, if_neg h, if_neg h]
  show (mSH, _, _, va_up (mRR x.2.2) 1 (va_up (mRR x.2.2 1) 8 (some (mBIG + j)))) = _
  rw [e]
  rfl
/-! locals: an unset one may hold anything -/
def m_sub : List Value → List Value → Prop
  | [], [] => True
  | a :: r, b :: r' => (a = mU ∨ a = b) ∧ m_sub r r'
  | _, _ => False
theorem m_sub_rf : ∀ l : List Value, m_sub l l
  | [] => trivial
  | _ :: r => ⟨Or.inr rfl, m_sub_rf r⟩
theorem m_sub_len : ∀ {l r : List Value}, m_sub l r → l.length = r.length
  | [], [], _ => rfl
  | _ :: _, _ :: _, h => by simp only [List.length_cons]; rw [m_sub_len h.2]
  | [], _ :: _, h => by cases h
  | _ :: _, [], h => by cases h
theorem m_sub_get : ∀ {l r : List Value}, m_sub l r → ∀ i, l.getD i mU = mU ∨ l.getD i mU = r.getD i mU
  | [], [], _, i => Or.inl rfl
  | a :: l, b :: r, h, 0 => h.1
  | a :: l, b :: r, h, i + 1 => m_sub_get h.2 i
  | [], _ :: _, h, _ => by cases h
  | _ :: _, [], h, _ => by cases h
theorem m_sub_set : ∀ {l r : List Value}, m_sub l r → ∀ (i : Nat) (v w : Value), v = mU ∨ v = w → m_sub (l.set i v) (r.set i w)
  | [], [], _, _, _, _, _ => trivial
  | a :: l, b :: r, h, 0, v, w, hv => ⟨hv, h.2⟩
  | a :: l, b :: r, h, i + 1, v, w, hv => ⟨h.1, m_sub_set h.2 i v w hv⟩
  | [], _ :: _, h, _, _, _, _ => by cases h
  | _ :: _, [], h, _, _, _, _ => by cases h
theorem m_sub_setU : ∀ {l r : List Value}, m_sub l r → ∀ (i : Nat), l.getD i mU = mU → ∀ w, m_sub l (r.set i w)
  | [], [], _, _, _, _ => trivial
  | a :: l, b :: r, h, 0, e, w => ⟨Or.inl e, h.2⟩
  | a :: l, b :: r, h, i + 1, e, w => ⟨h.1, m_sub_setU h.2 i e w⟩
  | [], _ :: _, h, _, _, _ => by cases h
  | _ :: _, [], h, _, _, _ => by cases h
theorem m_sub_brk {l r : List Value} (h : m_sub l r) (i : Nat) : m_sub (m_brk l i) (m_brk r i) := by
  cases i with
  | zero => exact h
  | succ j =>
    show m_sub (if (l.getD j mU).category = 2 then l.set j mU else l) (if (r.getD j mU).category = 2 then r.set j mU else r)
    rcases m_sub_get h j with e | e
    · rw [e, if_neg (by decide)]
      by_cases hc : (r.getD j mU).category = 2
      · rw [if_pos hc]; exact m_sub_setU h j e _
      · rw [if_neg hc]; exact h
    · rw [e]
      by_cases hc : (r.getD j mU).category = 2
      · rw [if_pos hc, if_pos hc]; exact m_sub_set h j _ _ (Or.inr rfl)
      · rw [if_neg hc, if_neg hc]; exact h
theorem m_sub_put {l r : List Value} (h : m_sub l r) (i : Nat) (v : Value) : m_sub (m_put l i v) (m_put r i v) := by
  unfold m_put
  split
  · exact m_sub_set (m_sub_set (m_sub_brk h i) i _ _ (Or.inr rfl)) _ _ _ (Or.inr rfl)
  · exact m_sub_set (m_sub_brk h i) i _ _ (Or.inr rfl)
theorem m_step_ls {fm : Value} {L : Nat} {xs : Nat → Int32} {a b d : Nat} {v : Value} {ts : List Nat} {pc pc' : Nat} {ls st ls' st' : List Value} {mem mem' : mM} (op : Nat) (h1 : op ≠ 1) (h2 : op ≠ 2) (h3 : op ≠ 3) (h : m_step fm L xs op a b d v ts pc ls st mem = some (pc', ls', st', mem')) : ls' = ls ∧ ∀ l2, m_step fm L xs op a b d v ts pc l2 st mem = some (pc', l2, st', mem') := by
  unfold m_step at h ⊢
  split at h
  all_goals first
    | exact absurd rfl h1
    | exact absurd rfl h2
    | exact absurd rfl h3
    | skip
  all_goals repeat' split at h
  all_goals first
    | (cases h; done)
    | (cases h; refine ⟨rfl, fun l2 => ?_⟩; first | rfl | (rw [if_pos (by assumption)]; done) | (simp [*]; done))
theorem m_step_sub {fm : Value} {L : Nat} {xs : Nat → Int32} {op a b d : Nat} {v : Value} {ts : List Nat} {pc pc' : Nat} {ls st ls' st' l2 : List Value} {mem mem' : mM} (h : m_step fm L xs op a b d v ts pc ls st mem = some (pc', ls', st', mem')) (hs : m_sub ls l2) : ∃ l2', m_step fm L xs op a b d v ts pc l2 st mem = some (pc', l2', st', mem') ∧ m_sub ls' l2' := by
  by_cases e1 : op = 1
  · subst e1
    have hg := m_sub_get hs b
    simp only [m_step] at h ⊢
    split at h
    · rename_i z hz
      cases h
      rw [hz] at hg
      rcases hg with hg | hg
      · cases hg
      · rw [← hg]; exact ⟨l2, rfl, hs⟩
    · rename_i z hz
      cases h
      rw [hz] at hg
      rcases hg with hg | hg
      · cases hg
      · rw [← hg]; exact ⟨l2, rfl, hs⟩
    · rename_i z hz
      cases h
      rw [hz] at hg
      rcases hg with hg | hg
      · cases hg
      · rw [← hg]; exact ⟨l2, rfl, hs⟩
    · cases h
  by_cases e2 : op = 2
  · subst e2
    have hl := m_sub_len hs
    simp only [m_step] at h ⊢
    split at h
    · split at h
      · rename_i hb
        cases h
        rw [hl] at hb
        exact ⟨m_put l2 b _, if_pos hb, m_sub_put hs b _⟩
      · cases h
    · split at h
      · rename_i hb
        cases h
        rw [hl] at hb
        exact ⟨m_put l2 b _, if_pos hb, m_sub_put hs b _⟩
      · cases h
    · split at h
      · rename_i hb
        cases h
        rw [hl] at hb
        exact ⟨m_put l2 b _, if_pos hb, m_sub_put hs b _⟩
      · cases h
    · cases h
  by_cases e3 : op = 3
  · subst e3
    have hg := m_sub_get hs b
    simp only [m_step] at h ⊢
    split at h
    · rename_i z k hz
      cases h
      rw [hz] at hg
      rcases hg with hg | hg
      · cases hg
      · rw [← hg]; exact ⟨_, rfl, m_sub_set hs b _ _ (Or.inr rfl)⟩
    · cases h
  obtain ⟨rfl, k⟩ := m_step_ls op e1 e2 e3 h
  exact ⟨l2, k l2, hs⟩
section MQ
variable {fm : Value} {L : Nat} {xs : Nat → Int32}
theorem m_one_step {TT : List mE} {rec : List (Nat × mO) → Nat → List Value → List Value → mM → Option (Value × mM)} {pg : List (Nat × mO)} {pc op a b d : Nat} {v : Value} {ts : List Nat} {ls st : List Value} {mem : mM} {pc' : Nat} {ls' st' : List Value} {mem1 : mM} (hl : pg.lookup pc = some (op, a, b, d, v, ts)) (ho : op < 80) (hs : m_step fm L xs op a b d v ts pc ls st mem = some (pc', ls', st', mem1)) : m_one TT fm L xs rec pg pc ls st mem = rec pg pc' ls' st' mem1 := by
  unfold m_one
  rw [hl]
  dsimp only
  rw [if_neg (by omega), if_neg (by omega), if_neg (by omega), if_neg (by omega), if_neg (by omega), hs]
theorem m_one_call {TT : List mE} {rec : List (Nat × mO) → Nat → List Value → List Value → mM → Option (Value × mM)} {pg : List (Nat × mO)} {pc a b d : Nat} {v : Value} {ts : List Nat} {ls st : List Value} {mem : mM} {y : MethodName} {code : ByteArray} {nL : Nat} {ret : Option FieldType} {frj loj : Nat} {pg' : List (Nat × mO)} {r1 : Value} {mem1 : mM} (hl : pg.lookup pc = some (80, a, b, d, v, ts)) (hj : TT[a]? = some (y, code, nL, ret, frj, loj, pg')) (h1 : b ≤ st.length) (h2 : ((st.drop b).map fun v => v.category).sum ≤ 8) (h3 : (m_ent (st.take b).reverse).length ≤ nL) (h4 : m_rcv (ts.getD 0 9) (ts.getD 6 99) (st.take b).reverse mem = true) (hr : rec pg' 0 (m_entry (st.take b).reverse nL) [] mem = some (r1, mem1)) : m_one TT fm L xs rec pg pc ls st mem = rec pg (pc + 3) ls (m_rst r1 ++ st.drop b) mem1 := by
  unfold m_one
  rw [hl]
  dsimp only
  rw [if_neg (by decide), if_neg (by decide), if_neg (by decide), if_neg (by decide), if_pos rfl, hj]
  dsimp only
  rw [if_pos ⟨h1, h2, h3, h4⟩, hr]
theorem m_exec_le : ∀ (n : Nat) (pg : List (Nat × mO)) (pc : Nat) (ls st : List Value) (mem : mM) (r : Value × mM), m_exec mTT fm L xs n pg pc ls st mem = some r → ∀ n2, n ≤ n2 → ∀ l2, m_sub ls l2 → m_exec mTT fm L xs n2 pg pc l2 st mem = some r := by
  intro n
  induction n with
  | zero => intro pg pc ls st mem r h; cases h
  | succ n ih =>
    intro pg pc ls st mem r h n2 hn l2 hs
    obtain ⟨k, rfl⟩ : ∃ k, n2 = k + 1 := ⟨n2 - 1, by omega⟩
    have hk : n ≤ k := by omega
    obtain ⟨r, mem'⟩ := r
    obtain ⟨op, a, b, d, v, ts, hl, h | h | h | h | h | h⟩ := m_one_inv (show m_one mTT fm L xs (m_exec mTT fm L xs n) pg pc ls st mem = some (r, mem') from h)
    · obtain ⟨rfl, z, rfl, hz, rfl, rfl⟩ := h
      show m_one mTT fm L xs _ pg pc l2 _ _ = _
      unfold m_one
      rw [hl]
      dsimp only
      rw [if_pos rfl, if_pos hz]
    · obtain ⟨rfl, rfl, rfl, rfl⟩ := h
      show m_one mTT fm L xs _ pg pc l2 _ _ = _
      unfold m_one
      rw [hl]
      rfl
    · obtain ⟨rfl, z, rfl, rfl, rfl⟩ := h
      show m_one mTT fm L xs _ pg pc l2 _ _ = _
      unfold m_one
      rw [hl]
      rfl
    · obtain ⟨rfl, z, rfl, rfl, rfl⟩ := h
      show m_one mTT fm L xs _ pg pc l2 _ _ = _
      unfold m_one
      rw [hl]
      rfl
    · obtain ⟨rfl, y, code, nL, ret, frj, loj, pg', r1, mem1, hj, h1, h2, h3, h4, hr, hx⟩ := h
      show m_one mTT fm L xs _ pg pc l2 st mem = _
      rw [m_one_call hl hj h1 h2 h3 h4 (ih _ _ _ _ _ _ hr k hk _ (m_sub_rf _))]
      exact ih _ _ _ _ _ _ hx k hk l2 hs
    · obtain ⟨⟨n90, n91, n92, n93, n80⟩, pc', ls', st', mem1, hst, hx⟩ := h
      obtain ⟨l2', h1, h2⟩ := m_step_sub hst hs
      show m_one mTT fm L xs _ pg pc l2 st mem = _
      unfold m_one
      rw [hl]
      dsimp only
      rw [if_neg n90, if_neg n91, if_neg n92, if_neg n93, if_neg n80, h1]
      exact ih _ _ _ _ _ _ hx k hk l2' h2
/-- the machine does what o says, if o says something -/
def mS (fm : Value) (L : Nat) (xs : Nat → Int32) {α : Type} (g : α → Value × mM) (pg : List (Nat × mO)) (pc : Nat) (ls st : List Value) (mem : mM) (o : Option α) : Prop := ∀ r, o = some r → ∃ n, m_exec mTT fm L xs n pg pc ls st mem = some (g r)
def m_steps (fm : Value) (L : Nat) (xs : Nat → Int32) (pg : List (Nat × mO)) : Nat → Nat → List Value → List Value → mM → Option (Nat × List Value × List Value × mM)
  | 0, pc, ls, st, mem => some (pc, ls, st, mem)
  | k + 1, pc, ls, st, mem => match pg.lookup pc with
    | some (op, a, b, d, v, ts) => match Nat.blt op 80 with
      | true => match m_step fm L xs op a b d v ts pc ls st mem with
        | some (pc', ls', st', mem') => m_steps fm L xs pg k pc' ls' st' mem'
        | none => none
      | false => none
    | none => none
def m_let {α β : Type} (e : α) (f : α → β) : β := f e
def m_jn {α β : Type} (f : α → β) (b : (α → β) → β) : β := b f
/-- the fuel of a loop -/
def mF : Nat := 100000
variable {α : Type} {g : α → Value × mM} {pg : List (Nat × mO)} {pc : Nat} {ls st : List Value} {mem : mM}
theorem mS_forget {o : Option α} (l0 : List Value) (h : m_sub l0 ls) (k : mS fm L xs g pg pc l0 st mem o) : mS fm L xs g pg pc ls st mem o := by
  intro r hr
  obtain ⟨n, hn⟩ := k r hr
  exact ⟨n, m_exec_le n _ _ _ _ _ _ hn n (Nat.le_refl _) ls h⟩
theorem mS_one {o : Option α} {op a b d : Nat} {v : Value} {ts : List Nat} {pc' : Nat} {ls' st' : List Value} {mem' : mM} (hl : pg.lookup pc = some (op, a, b, d, v, ts)) (ho : op < 80) (hs : m_step fm L xs op a b d v ts pc ls st mem = some (pc', ls', st', mem')) (k : mS fm L xs g pg pc' ls' st' mem' o) : mS fm L xs g pg pc ls st mem o := by
  intro r hr
  obtain ⟨n, hn⟩ := k r hr
  refine ⟨n + 1, ?_⟩
  show m_one mTT fm L xs (m_exec mTT fm L xs n) pg pc ls st mem = _
  rw [m_one_step hl ho hs]
  exact hn
theorem mS_steps {o : Option α} {pc' : Nat} {ls' st' : List Value} {mem' : mM} : ∀ (k : Nat) {pc : Nat} {ls st : List Value} {mem : mM}, m_steps fm L xs pg k pc ls st mem = some (pc', ls', st', mem') → mS fm L xs g pg pc' ls' st' mem' o → mS fm L xs g pg pc ls st mem o
  | 0, pc, ls, st, mem, h, kk => by cases h; exact kk
  | k + 1, pc, ls, st, mem, h, kk => by
    rw [m_steps] at h
    split at h
    · rename_i op a b d v ts hl
      split at h
      · rename_i ho
        split at h
        · rename_i pc1 ls1 st1 mem1 hs
          exact mS_one hl (Nat.le_of_ble_eq_true ho) hs (mS_steps k h kk)
        · cases h
      · cases h
    · cases h
theorem mS_none : mS fm L xs g pg pc ls st mem none := fun _ h => by cases h
theorem mS_ite {c : Prop} {hc : Decidable c} {A B : Option α} (ht : c → mS fm L xs g pg pc ls st mem A) (hf : ¬ c → mS fm L xs g pg pc ls st mem B) : mS fm L xs g pg pc ls st mem (if c then A else B) := by
  by_cases h : c
  · rw [if_pos h]; exact ht h
  · rw [if_neg h]; exact hf h
theorem mS_iteT {c : Prop} {hc : Decidable c} {A B : α} (ht : c → mS fm L xs g pg pc ls st mem (some A)) (hf : ¬ c → mS fm L xs g pg pc ls st mem (some B)) : mS fm L xs g pg pc ls st mem (some (if c then A else B)) := by
  by_cases h : c
  · rw [if_pos h]; exact ht h
  · rw [if_neg h]; exact hf h
theorem mS_guard {c : Prop} {hc : Decidable c} {A : Option α} (ht : c → mS fm L xs g pg pc ls st mem A) : mS fm L xs g pg pc ls st mem (if c then A else none) := mS_ite ht (fun _ => mS_none)
theorem mS_let {β : Type} {e : β} {f : β → Option α} (h : mS fm L xs g pg pc ls st mem (f e)) : mS fm L xs g pg pc ls st mem (m_let e f) := h
theorem mS_jn {A : Type} {f : A → Option α} {b : (A → Option α) → Option α} (P : (A → Option α) → Prop) (hf : P f) (hb : ∀ j, P j → mS fm L xs g pg pc ls st mem (b j)) : mS fm L xs g pg pc ls st mem (m_jn f b) := hb f hf
theorem mS_reti {z : Int32} {r : α} (hl : ∃ a b d v ts, pg.lookup pc = some (90, a, b, d, v, ts) ∧ m_nr b z = true) (hg : g r = (.int z, mem)) : mS fm L xs g pg pc ls [.int z] mem (some r) := by
  intro r' hr
  cases hr
  obtain ⟨a, b, d, v, ts, h1, h2⟩ := hl
  refine ⟨1, ?_⟩
  show m_one mTT fm L xs _ pg pc ls _ mem = _
  unfold m_one
  rw [h1]
  dsimp only
  rw [if_pos rfl, if_pos h2, hg]
theorem mS_retv {r : α} (hl : ∃ a b d v ts, pg.lookup pc = some (91, a, b, d, v, ts)) (hg : g r = (mU, mem)) : mS fm L xs g pg pc ls [] mem (some r) := by
  intro r' hr
  cases hr
  obtain ⟨a, b, d, v, ts, h1⟩ := hl
  refine ⟨1, ?_⟩
  show m_one mTT fm L xs _ pg pc ls _ mem = _
  unfold m_one
  rw [h1, hg]
  rfl
theorem mS_retl {z : Int64} {r : α} (hl : ∃ a b d v ts, pg.lookup pc = some (92, a, b, d, v, ts)) (hg : g r = (.long z, mem)) : mS fm L xs g pg pc ls [.long z] mem (some r) := by
  intro r' hr
  cases hr
  obtain ⟨a, b, d, v, ts, h1⟩ := hl
  refine ⟨1, ?_⟩
  show m_one mTT fm L xs _ pg pc ls _ mem = _
  unfold m_one
  rw [h1, hg]
  rfl
theorem mS_reta {z : Nat} {r : α} (hl : ∃ a b d v ts, pg.lookup pc = some (93, a, b, d, v, ts)) (hg : g r = (.ref z, mem)) : mS fm L xs g pg pc ls [.ref z] mem (some r) := by
  intro r' hr
  cases hr
  obtain ⟨a, b, d, v, ts, h1⟩ := hl
  refine ⟨1, ?_⟩
  show m_one mTT fm L xs _ pg pc ls _ mem = _
  unfold m_one
  rw [h1, hg]
  rfl
/-- a call: the callee's run, then the rest -/
theorem mS_call {o : Option α} {β : Type} {g' : β → Value × mM} {q : β} {y : MethodName} {code : ByteArray} {nL : Nat} {ret : Option FieldType} {frj loj : Nat} {pg' : List (Nat × mO)} {ov : Option β} (a b : Nat) (As rest : List Value) (hj : mTT[a]? = some (y, code, nL, ret, frj, loj, pg')) (hst : st = As.reverse ++ rest) (hb : As.length = b) (hl : ∃ d v ts, pg.lookup pc = some (80, a, b, d, v, ts) ∧ m_rcv (ts.getD 0 9) (ts.getD 6 99) As mem = true) (h2 : (rest.map fun v => v.category).sum ≤ 8) (h3 : (m_ent As).length ≤ nL) (hq : ov = some q) (hc : mS fm L xs g' pg' 0 (m_entry As nL) [] mem ov) (k : mS fm L xs g pg (pc + 3) ls (m_rst (g' q).1 ++ rest) (g' q).2 o) : mS fm L xs g pg pc ls st mem o := by
  intro r hr
  obtain ⟨n1, hn1⟩ := hc q hq
  obtain ⟨n2, hn2⟩ := k r hr
  obtain ⟨d, v, ts, hl1, hl2⟩ := hl
  refine ⟨max n1 n2 + 1, ?_⟩
  have e1 : st.take b = As.reverse := by rw [hst, ← hb, ← List.length_reverse (as := As), List.take_left']; rfl
  have e2 : st.drop b = rest := by rw [hst, ← hb, ← List.length_reverse (as := As), List.drop_left']; rfl
  show m_one mTT fm L xs (m_exec mTT fm L xs (max n1 n2)) pg pc ls st mem = _
  rw [m_one_call (r1 := (g' q).1) (mem1 := (g' q).2) hl1 hj (by rw [hst]; simp; omega) (by rw [e2]; exact h2) (by rw [e1, List.reverse_reverse]; exact h3) (by rw [e1, List.reverse_reverse]; exact hl2) (by rw [e1, List.reverse_reverse]; exact m_exec_le n1 _ _ _ _ _ _ hn1 _ (Nat.le_max_left _ _) _ (m_sub_rf _)), e2]
  exact m_exec_le n2 _ _ _ _ _ _ hn2 _ (Nat.le_max_right _ _) _ (m_sub_rf _)
end MQ
