/-! ===== the reference made (written by wip/whole/gen/gen20.py) ===== -/
set_option maxRecDepth 20000 in
set_option maxHeartbeats 4000000 in
theorem d_X11_init {fm : Value} {L : Nat} {xs : Nat → Int32} : mS fm L xs (fun _ : Unit => (mU, mMk 637)) pg_X11_init 0 (m_entry [.ref 279] 1) [] (mMk 560) (some ()) := by
  refine mS_steps (pc' := 8) (ls' := [.ref 279]) (st' := [.int (2000 : Int32), .ref 279]) (mem' := mMk 560) 4 rfl ?_
  refine mS_naK (a := 280) (N := 2000) rfl (by decide +kernel) (by decide) (by decide) (by decide) (by decide) (by decide +kernel) ?_
  refine mS_steps (pc' := 10) (ls' := [.ref 279]) (st' := [.ref 280, .ref 279]) (mem' := mMk 561) 0 rfl ?_
  refine mS_prK (n := 64) rfl (by decide +kernel) (by decide) (by decide) (by decide +kernel) ?_
  refine mS_steps (pc' := 17) (ls' := [.ref 279]) (st' := [.int (2000 : Int32), .ref 279]) (mem' := mMk 562) 2 rfl ?_
  refine mS_naK (a := 281) (N := 2000) rfl (by decide +kernel) (by decide) (by decide) (by decide) (by decide) (by decide +kernel) ?_
  refine mS_steps (pc' := 19) (ls' := [.ref 279]) (st' := [.ref 281, .ref 279]) (mem' := mMk 563) 0 rfl ?_
  refine mS_prK (n := 64) rfl (by decide +kernel) (by decide) (by decide) (by decide +kernel) ?_
  refine mS_steps (pc' := 26) (ls' := [.ref 279]) (st' := [.int (403 : Int32), .ref 279]) (mem' := mMk 564) 2 rfl ?_
  refine mS_naK (a := 282) (N := 403) rfl (by decide +kernel) (by decide) (by decide) (by decide) (by decide) (by decide +kernel) ?_
  refine mS_steps (pc' := 28) (ls' := [.ref 279]) (st' := [.ref 282, .ref 279]) (mem' := mMk 565) 0 rfl ?_
  refine mS_prK (n := 64) rfl (by decide +kernel) (by decide) (by decide) (by decide +kernel) ?_
  refine mS_steps (pc' := 35) (ls' := [.ref 279]) (st' := [.int (403 : Int32), .ref 279]) (mem' := mMk 566) 2 rfl ?_
  refine mS_naK (a := 283) (N := 403) rfl (by decide +kernel) (by decide) (by decide) (by decide) (by decide) (by decide +kernel) ?_
  refine mS_steps (pc' := 37) (ls' := [.ref 279]) (st' := [.ref 283, .ref 279]) (mem' := mMk 567) 0 rfl ?_
  refine mS_prK (n := 64) rfl (by decide +kernel) (by decide) (by decide) (by decide +kernel) ?_
  refine mS_steps (pc' := 44) (ls' := [.ref 279]) (st' := [.int (403 : Int32), .ref 279]) (mem' := mMk 568) 2 rfl ?_
  refine mS_naK (a := 284) (N := 403) rfl (by decide +kernel) (by decide) (by decide) (by decide) (by decide) (by decide +kernel) ?_
  refine mS_steps (pc' := 46) (ls' := [.ref 279]) (st' := [.ref 284, .ref 279]) (mem' := mMk 569) 0 rfl ?_
  refine mS_prK (n := 64) rfl (by decide +kernel) (by decide) (by decide) (by decide +kernel) ?_
  refine mS_steps (pc' := 53) (ls' := [.ref 279]) (st' := [.int (403 : Int32), .ref 279]) (mem' := mMk 570) 2 rfl ?_
  refine mS_naK (a := 285) (N := 403) rfl (by decide +kernel) (by decide) (by decide) (by decide) (by decide) (by decide +kernel) ?_
  refine mS_steps (pc' := 55) (ls' := [.ref 279]) (st' := [.ref 285, .ref 279]) (mem' := mMk 571) 0 rfl ?_
  refine mS_prK (n := 64) rfl (by decide +kernel) (by decide) (by decide) (by decide +kernel) ?_
  refine mS_steps (pc' := 60) (ls' := [.ref 279]) (st' := [.int (5 : Int32), .ref 279]) (mem' := mMk 572) 2 rfl ?_
  refine mS_naK (a := 286) (N := 5) rfl (by decide +kernel) (by decide) (by decide) (by decide) (by decide) (by decide +kernel) ?_
  refine mS_steps (pc' := 62) (ls' := [.ref 279]) (st' := [.ref 286, .ref 279]) (mem' := mMk 573) 0 rfl ?_
  refine mS_prK (n := 64) rfl (by decide +kernel) (by decide) (by decide) (by decide +kernel) ?_
  refine mS_steps (pc' := 67) (ls' := [.ref 279]) (st' := [.int (-1 : Int32), .ref 279]) (mem' := mMk 574) 2 rfl ?_
  refine mS_piK (n := 64) (w := -1) rfl (by decide +kernel) (by decide) (by decide) (by decide +kernel) (by decide +kernel) ?_
  refine mS_steps (pc' := 73) (ls' := [.ref 279]) (st' := [.int (8 : Int32), .ref 279]) (mem' := mMk 575) 2 rfl ?_
  refine mS_naK (a := 287) (N := 8) rfl (by decide +kernel) (by decide) (by decide) (by decide) (by decide) (by decide +kernel) ?_
  refine mS_steps (pc' := 75) (ls' := [.ref 279]) (st' := [.ref 287, .ref 279]) (mem' := mMk 576) 0 rfl ?_
  refine mS_prK (n := 64) rfl (by decide +kernel) (by decide) (by decide) (by decide +kernel) ?_
  refine mS_steps (pc' := 81) (ls' := [.ref 279]) (st' := [.int (72 : Int32), .ref 279]) (mem' := mMk 577) 2 rfl ?_
  refine mS_naK (a := 288) (N := 72) rfl (by decide +kernel) (by decide) (by decide) (by decide) (by decide) (by decide +kernel) ?_
  refine mS_steps (pc' := 83) (ls' := [.ref 279]) (st' := [.ref 288, .ref 279]) (mem' := mMk 578) 0 rfl ?_
  refine mS_prK (n := 64) rfl (by decide +kernel) (by decide) (by decide) (by decide +kernel) ?_
  refine mS_steps (pc' := 89) (ls' := [.ref 279]) (st' := [.int (72 : Int32), .ref 279]) (mem' := mMk 579) 2 rfl ?_
  refine mS_naK (a := 289) (N := 72) rfl (by decide +kernel) (by decide) (by decide) (by decide) (by decide) (by decide +kernel) ?_
  refine mS_steps (pc' := 91) (ls' := [.ref 279]) (st' := [.ref 289, .ref 279]) (mem' := mMk 580) 0 rfl ?_
  refine mS_prK (n := 64) rfl (by decide +kernel) (by decide) (by decide) (by decide +kernel) ?_
  refine mS_steps (pc' := 98) (ls' := [.ref 279]) (st' := [.int (2880 : Int32), .ref 279]) (mem' := mMk 581) 2 rfl ?_
  refine mS_naK (a := 290) (N := 2880) rfl (by decide +kernel) (by decide) (by decide) (by decide) (by decide) (by decide +kernel) ?_
  refine mS_steps (pc' := 100) (ls' := [.ref 279]) (st' := [.ref 290, .ref 279]) (mem' := mMk 582) 0 rfl ?_
  refine mS_prK (n := 64) rfl (by decide +kernel) (by decide) (by decide) (by decide +kernel) ?_
  refine mS_steps (pc' := 107) (ls' := [.ref 279]) (st' := [.int (216 : Int32), .ref 279]) (mem' := mMk 583) 2 rfl ?_
  refine mS_naK (a := 291) (N := 216) rfl (by decide +kernel) (by decide) (by decide) (by decide) (by decide) (by decide +kernel) ?_
  refine mS_steps (pc' := 109) (ls' := [.ref 279]) (st' := [.ref 291, .ref 279]) (mem' := mMk 584) 0 rfl ?_
  refine mS_prK (n := 64) rfl (by decide +kernel) (by decide) (by decide) (by decide +kernel) ?_
  refine mS_steps (pc' := 114) (ls' := [.ref 279]) (st' := [.int (3 : Int32), .ref 279]) (mem' := mMk 585) 2 rfl ?_
  refine mS_naK (a := 292) (N := 3) rfl (by decide +kernel) (by decide) (by decide) (by decide) (by decide) (by decide +kernel) ?_
  refine mS_steps (pc' := 116) (ls' := [.ref 279]) (st' := [.ref 292, .ref 279]) (mem' := mMk 586) 0 rfl ?_
  refine mS_prK (n := 64) rfl (by decide +kernel) (by decide) (by decide) (by decide +kernel) ?_
  refine mS_steps (pc' := 122) (ls' := [.ref 279]) (st' := [.int (24 : Int32), .ref 279]) (mem' := mMk 587) 2 rfl ?_
  refine mS_naK (a := 293) (N := 24) rfl (by decide +kernel) (by decide) (by decide) (by decide) (by decide) (by decide +kernel) ?_
  refine mS_steps (pc' := 124) (ls' := [.ref 279]) (st' := [.ref 293, .ref 279]) (mem' := mMk 588) 0 rfl ?_
  refine mS_prK (n := 64) rfl (by decide +kernel) (by decide) (by decide) (by decide +kernel) ?_
  refine mS_steps (pc' := 131) (ls' := [.ref 279]) (st' := [.int (256 : Int32), .ref 279]) (mem' := mMk 589) 2 rfl ?_
  refine mS_naK (a := 294) (N := 256) rfl (by decide +kernel) (by decide) (by decide) (by decide) (by decide) (by decide +kernel) ?_
  refine mS_steps (pc' := 133) (ls' := [.ref 279]) (st' := [.ref 294, .ref 279]) (mem' := mMk 590) 0 rfl ?_
  refine mS_prK (n := 64) rfl (by decide +kernel) (by decide) (by decide) (by decide +kernel) ?_
  refine mS_steps (pc' := 139) (ls' := [.ref 279]) (st' := [.int (28 : Int32), .ref 279]) (mem' := mMk 591) 2 rfl ?_
  refine mS_naK (a := 295) (N := 28) rfl (by decide +kernel) (by decide) (by decide) (by decide) (by decide) (by decide +kernel) ?_
  refine mS_steps (pc' := 141) (ls' := [.ref 279]) (st' := [.ref 295, .ref 279]) (mem' := mMk 592) 0 rfl ?_
  refine mS_prK (n := 64) rfl (by decide +kernel) (by decide) (by decide) (by decide +kernel) ?_
  refine mS_steps (pc' := 147) (ls' := [.ref 279]) (st' := [.int (64 : Int32), .ref 279]) (mem' := mMk 593) 2 rfl ?_
  refine mS_naK (a := 296) (N := 64) rfl (by decide +kernel) (by decide) (by decide) (by decide) (by decide) (by decide +kernel) ?_
  refine mS_steps (pc' := 149) (ls' := [.ref 279]) (st' := [.ref 296, .ref 279]) (mem' := mMk 594) 0 rfl ?_
  refine mS_prK (n := 64) rfl (by decide +kernel) (by decide) (by decide) (by decide +kernel) ?_
  refine mS_steps (pc' := 155) (ls' := [.ref 279]) (st' := [.int (64 : Int32), .ref 279]) (mem' := mMk 595) 2 rfl ?_
  refine mS_naK (a := 297) (N := 64) rfl (by decide +kernel) (by decide) (by decide) (by decide) (by decide) (by decide +kernel) ?_
  refine mS_steps (pc' := 157) (ls' := [.ref 279]) (st' := [.ref 297, .ref 279]) (mem' := mMk 596) 0 rfl ?_
  refine mS_prK (n := 64) rfl (by decide +kernel) (by decide) (by decide) (by decide +kernel) ?_
  refine mS_steps (pc' := 163) (ls' := [.ref 279]) (st' := [.int (64 : Int32), .ref 279]) (mem' := mMk 597) 2 rfl ?_
  refine mS_naK (a := 298) (N := 64) rfl (by decide +kernel) (by decide) (by decide) (by decide) (by decide) (by decide +kernel) ?_
  refine mS_steps (pc' := 165) (ls' := [.ref 279]) (st' := [.ref 298, .ref 279]) (mem' := mMk 598) 0 rfl ?_
  refine mS_prK (n := 64) rfl (by decide +kernel) (by decide) (by decide) (by decide +kernel) ?_
  refine mS_steps (pc' := 172) (ls' := [.ref 279]) (st' := [.int (512 : Int32), .ref 279]) (mem' := mMk 599) 2 rfl ?_
  refine mS_naK (a := 299) (N := 512) rfl (by decide +kernel) (by decide) (by decide) (by decide) (by decide) (by decide +kernel) ?_
  refine mS_steps (pc' := 174) (ls' := [.ref 279]) (st' := [.ref 299, .ref 279]) (mem' := mMk 600) 0 rfl ?_
  refine mS_prK (n := 64) rfl (by decide +kernel) (by decide) (by decide) (by decide +kernel) ?_
  refine mS_steps (pc' := 180) (ls' := [.ref 279]) (st' := [.int (64 : Int32), .ref 279]) (mem' := mMk 601) 2 rfl ?_
  refine mS_naK (a := 300) (N := 64) rfl (by decide +kernel) (by decide) (by decide) (by decide) (by decide) (by decide +kernel) ?_
  refine mS_steps (pc' := 182) (ls' := [.ref 279]) (st' := [.ref 300, .ref 279]) (mem' := mMk 602) 0 rfl ?_
  refine mS_prK (n := 64) rfl (by decide +kernel) (by decide) (by decide) (by decide +kernel) ?_
  refine mS_steps (pc' := 188) (ls' := [.ref 279]) (st' := [.int (64 : Int32), .ref 279]) (mem' := mMk 603) 2 rfl ?_
  refine mS_naK (a := 301) (N := 64) rfl (by decide +kernel) (by decide) (by decide) (by decide) (by decide) (by decide +kernel) ?_
  refine mS_steps (pc' := 190) (ls' := [.ref 279]) (st' := [.ref 301, .ref 279]) (mem' := mMk 604) 0 rfl ?_
  refine mS_prK (n := 64) rfl (by decide +kernel) (by decide) (by decide) (by decide +kernel) ?_
  refine mS_steps (pc' := 196) (ls' := [.ref 279]) (st' := [.int (8 : Int32), .ref 279]) (mem' := mMk 605) 2 rfl ?_
  refine mS_naK (a := 302) (N := 8) rfl (by decide +kernel) (by decide) (by decide) (by decide) (by decide) (by decide +kernel) ?_
  refine mS_steps (pc' := 198) (ls' := [.ref 279]) (st' := [.ref 302, .ref 279]) (mem' := mMk 606) 0 rfl ?_
  refine mS_prK (n := 64) rfl (by decide +kernel) (by decide) (by decide) (by decide +kernel) ?_
  refine mS_steps (pc' := 204) (ls' := [.ref 279]) (st' := [.int (8 : Int32), .ref 279]) (mem' := mMk 607) 2 rfl ?_
  refine mS_naK (a := 303) (N := 8) rfl (by decide +kernel) (by decide) (by decide) (by decide) (by decide) (by decide +kernel) ?_
  refine mS_steps (pc' := 206) (ls' := [.ref 279]) (st' := [.ref 303, .ref 279]) (mem' := mMk 608) 0 rfl ?_
  refine mS_prK (n := 64) rfl (by decide +kernel) (by decide) (by decide) (by decide +kernel) ?_
  refine mS_steps (pc' := 212) (ls' := [.ref 279]) (st' := [.int (8 : Int32), .ref 279]) (mem' := mMk 609) 2 rfl ?_
  refine mS_naK (a := 304) (N := 8) rfl (by decide +kernel) (by decide) (by decide) (by decide) (by decide) (by decide +kernel) ?_
  refine mS_steps (pc' := 214) (ls' := [.ref 279]) (st' := [.ref 304, .ref 279]) (mem' := mMk 610) 0 rfl ?_
  refine mS_prK (n := 64) rfl (by decide +kernel) (by decide) (by decide) (by decide +kernel) ?_
  refine mS_steps (pc' := 221) (ls' := [.ref 279]) (st' := [.int (160 : Int32), .ref 279]) (mem' := mMk 611) 2 rfl ?_
  refine mS_naK (a := 305) (N := 160) rfl (by decide +kernel) (by decide) (by decide) (by decide) (by decide) (by decide +kernel) ?_
  refine mS_steps (pc' := 223) (ls' := [.ref 279]) (st' := [.ref 305, .ref 279]) (mem' := mMk 612) 0 rfl ?_
  refine mS_prK (n := 64) rfl (by decide +kernel) (by decide) (by decide) (by decide +kernel) ?_
  refine mS_steps (pc' := 229) (ls' := [.ref 279]) (st' := [.int (16 : Int32), .ref 279]) (mem' := mMk 613) 2 rfl ?_
  refine mS_naK (a := 306) (N := 16) rfl (by decide +kernel) (by decide) (by decide) (by decide) (by decide) (by decide +kernel) ?_
  refine mS_steps (pc' := 231) (ls' := [.ref 279]) (st' := [.ref 306, .ref 279]) (mem' := mMk 614) 0 rfl ?_
  refine mS_prK (n := 64) rfl (by decide +kernel) (by decide) (by decide) (by decide +kernel) ?_
  refine mS_steps (pc' := 237) (ls' := [.ref 279]) (st' := [.int (8 : Int32), .ref 279]) (mem' := mMk 615) 2 rfl ?_
  refine mS_naK (a := 307) (N := 8) rfl (by decide +kernel) (by decide) (by decide) (by decide) (by decide) (by decide +kernel) ?_
  refine mS_steps (pc' := 239) (ls' := [.ref 279]) (st' := [.ref 307, .ref 279]) (mem' := mMk 616) 0 rfl ?_
  refine mS_prK (n := 64) rfl (by decide +kernel) (by decide) (by decide) (by decide +kernel) ?_
  refine mS_steps (pc' := 245) (ls' := [.ref 279]) (st' := [.int (8 : Int32), .ref 279]) (mem' := mMk 617) 2 rfl ?_
  refine mS_naK (a := 308) (N := 8) rfl (by decide +kernel) (by decide) (by decide) (by decide) (by decide) (by decide +kernel) ?_
  refine mS_steps (pc' := 247) (ls' := [.ref 279]) (st' := [.ref 308, .ref 279]) (mem' := mMk 618) 0 rfl ?_
  refine mS_prK (n := 64) rfl (by decide +kernel) (by decide) (by decide) (by decide +kernel) ?_
  refine mS_steps (pc' := 253) (ls' := [.ref 279]) (st' := [.int (32 : Int32), .ref 279]) (mem' := mMk 619) 2 rfl ?_
  refine mS_naK (a := 309) (N := 32) rfl (by decide +kernel) (by decide) (by decide) (by decide) (by decide) (by decide +kernel) ?_
  refine mS_steps (pc' := 255) (ls' := [.ref 279]) (st' := [.ref 309, .ref 279]) (mem' := mMk 620) 0 rfl ?_
  refine mS_prK (n := 64) rfl (by decide +kernel) (by decide) (by decide) (by decide +kernel) ?_
  refine mS_steps (pc' := 261) (ls' := [.ref 279]) (st' := [.int (16 : Int32), .ref 279]) (mem' := mMk 621) 2 rfl ?_
  refine mS_naK (a := 310) (N := 16) rfl (by decide +kernel) (by decide) (by decide) (by decide) (by decide) (by decide +kernel) ?_
  refine mS_steps (pc' := 263) (ls' := [.ref 279]) (st' := [.ref 310, .ref 279]) (mem' := mMk 622) 0 rfl ?_
  refine mS_prK (n := 64) rfl (by decide +kernel) (by decide) (by decide) (by decide +kernel) ?_
  refine mS_steps (pc' := 270) (ls' := [.ref 279]) (st' := [.int (2048 : Int32), .ref 279]) (mem' := mMk 623) 2 rfl ?_
  refine mS_naK (a := 311) (N := 2048) rfl (by decide +kernel) (by decide) (by decide) (by decide) (by decide) (by decide +kernel) ?_
  refine mS_steps (pc' := 272) (ls' := [.ref 279]) (st' := [.ref 311, .ref 279]) (mem' := mMk 624) 0 rfl ?_
  refine mS_prK (n := 64) rfl (by decide +kernel) (by decide) (by decide) (by decide +kernel) ?_
  refine mS_steps (pc' := 279) (ls' := [.ref 279]) (st' := [.int (256 : Int32), .ref 279]) (mem' := mMk 625) 2 rfl ?_
  refine mS_naK (a := 312) (N := 256) rfl (by decide +kernel) (by decide) (by decide) (by decide) (by decide) (by decide +kernel) ?_
  refine mS_steps (pc' := 281) (ls' := [.ref 279]) (st' := [.ref 312, .ref 279]) (mem' := mMk 626) 0 rfl ?_
  refine mS_prK (n := 64) rfl (by decide +kernel) (by decide) (by decide) (by decide +kernel) ?_
  refine mS_steps (pc' := 287) (ls' := [.ref 279]) (st' := [.int (28 : Int32), .ref 279]) (mem' := mMk 627) 2 rfl ?_
  refine mS_naK (a := 313) (N := 28) rfl (by decide +kernel) (by decide) (by decide) (by decide) (by decide) (by decide +kernel) ?_
  refine mS_steps (pc' := 289) (ls' := [.ref 279]) (st' := [.ref 313, .ref 279]) (mem' := mMk 628) 0 rfl ?_
  refine mS_prK (n := 64) rfl (by decide +kernel) (by decide) (by decide) (by decide +kernel) ?_
  refine mS_steps (pc' := 294) (ls' := [.ref 279]) (st' := [.int (4 : Int32), .ref 279]) (mem' := mMk 629) 2 rfl ?_
  refine mS_naK (a := 314) (N := 4) rfl (by decide +kernel) (by decide) (by decide) (by decide) (by decide) (by decide +kernel) ?_
  refine mS_steps (pc' := 296) (ls' := [.ref 279]) (st' := [.ref 314, .ref 279]) (mem' := mMk 630) 0 rfl ?_
  refine mS_prK (n := 64) rfl (by decide +kernel) (by decide) (by decide) (by decide +kernel) ?_
  refine mS_steps (pc' := 300) (ls' := [.ref 279]) (st' := [.ref 279]) (mem' := mMk 631) 1 rfl ?_
  refine mS_getg (n := 64) (r := 286) rfl (by decide +kernel) (by decide) (by decide) (by decide +kernel) ?_
  refine mS_steps (pc' := 315) (ls' := [.ref 279]) (st' := [.int (0 : Int32), .int (0 : Int32), .int (0 : Int32), .int (116 : Int32), .int (115 : Int32), .int (111 : Int32), .int (112 : Int32), .int (0 : Int32), .ref 286]) (mem' := mMk 631) 8 rfl ?_
  refine mS_call (q := (326396 : Int64)) 12 7 [.int (112 : Int32), .int (111 : Int32), .int (115 : Int32), .int (116 : Int32), .int (0 : Int32), .int (0 : Int32), .int (0 : Int32)] [.int (0 : Int32), .ref 286] rfl rfl rfl ⟨_, _, _, rfl, rfl⟩ (Nat.le_of_ble_eq_true rfl) (Nat.le_of_ble_eq_true rfl) (by decide +kernel) (f_X11_letters_snd (112 : Int32) (111 : Int32) (115 : Int32) (116 : Int32) (0 : Int32) (0 : Int32) (0 : Int32) (mMk 631)) ?_
  refine mS_steps (pc' := 318) (ls' := [.ref 279]) (st' := [.long (326396 : Int64), .int (0 : Int32), .ref 286]) (mem' := mMk 631) 0 rfl ?_
  refine mS_steps (pc' := 318) (ls' := [.ref 279]) (st' := [.long (326396 : Int64), .int (0 : Int32), .ref 286]) (mem' := mMk 631) 0 rfl ?_
  refine mS_ljK (n := 5) (c := 0) (w := 326396) rfl (by decide +kernel) (by decide) (by decide) (by decide) (by decide +kernel) (by decide +kernel) ?_
  refine mS_steps (pc' := 320) (ls' := [.ref 279]) (st' := [.ref 279]) (mem' := mMk 632) 1 rfl ?_
  refine mS_getg (n := 64) (r := 286) rfl (by decide +kernel) (by decide) (by decide) (by decide +kernel) ?_
  refine mS_steps (pc' := 335) (ls' := [.ref 279]) (st' := [.int (0 : Int32), .int (0 : Int32), .int (0 : Int32), .int (107 : Int32), .int (110 : Int32), .int (105 : Int32), .int (108 : Int32), .int (1 : Int32), .ref 286]) (mem' := mMk 632) 8 rfl ?_
  refine mS_call (q := (243146 : Int64)) 12 7 [.int (108 : Int32), .int (105 : Int32), .int (110 : Int32), .int (107 : Int32), .int (0 : Int32), .int (0 : Int32), .int (0 : Int32)] [.int (1 : Int32), .ref 286] rfl rfl rfl ⟨_, _, _, rfl, rfl⟩ (Nat.le_of_ble_eq_true rfl) (Nat.le_of_ble_eq_true rfl) (by decide +kernel) (f_X11_letters_snd (108 : Int32) (105 : Int32) (110 : Int32) (107 : Int32) (0 : Int32) (0 : Int32) (0 : Int32) (mMk 632)) ?_
  refine mS_steps (pc' := 338) (ls' := [.ref 279]) (st' := [.long (243146 : Int64), .int (1 : Int32), .ref 286]) (mem' := mMk 632) 0 rfl ?_
  refine mS_steps (pc' := 338) (ls' := [.ref 279]) (st' := [.long (243146 : Int64), .int (1 : Int32), .ref 286]) (mem' := mMk 632) 0 rfl ?_
  refine mS_ljK (n := 5) (c := 1) (w := 243146) rfl (by decide +kernel) (by decide) (by decide) (by decide) (by decide +kernel) (by decide +kernel) ?_
  refine mS_steps (pc' := 340) (ls' := [.ref 279]) (st' := [.ref 279]) (mem' := mMk 633) 1 rfl ?_
  refine mS_getg (n := 64) (r := 286) rfl (by decide +kernel) (by decide) (by decide) (by decide +kernel) ?_
  refine mS_steps (pc' := 354) (ls' := [.ref 279]) (st' := [.int (0 : Int32), .int (0 : Int32), .int (0 : Int32), .int (0 : Int32), .int (102 : Int32), .int (102 : Int32), .int (111 : Int32), .int (2 : Int32), .ref 286]) (mem' := mMk 633) 8 rfl ?_
  refine mS_call (q := (11103 : Int64)) 12 7 [.int (111 : Int32), .int (102 : Int32), .int (102 : Int32), .int (0 : Int32), .int (0 : Int32), .int (0 : Int32), .int (0 : Int32)] [.int (2 : Int32), .ref 286] rfl rfl rfl ⟨_, _, _, rfl, rfl⟩ (Nat.le_of_ble_eq_true rfl) (Nat.le_of_ble_eq_true rfl) (by decide +kernel) (f_X11_letters_snd (111 : Int32) (102 : Int32) (102 : Int32) (0 : Int32) (0 : Int32) (0 : Int32) (0 : Int32) (mMk 633)) ?_
  refine mS_steps (pc' := 357) (ls' := [.ref 279]) (st' := [.long (11103 : Int64), .int (2 : Int32), .ref 286]) (mem' := mMk 633) 0 rfl ?_
  refine mS_steps (pc' := 357) (ls' := [.ref 279]) (st' := [.long (11103 : Int64), .int (2 : Int32), .ref 286]) (mem' := mMk 633) 0 rfl ?_
  refine mS_ljK (n := 5) (c := 2) (w := 11103) rfl (by decide +kernel) (by decide) (by decide) (by decide) (by decide +kernel) (by decide +kernel) ?_
  refine mS_steps (pc' := 359) (ls' := [.ref 279]) (st' := [.ref 279]) (mem' := mMk 634) 1 rfl ?_
  refine mS_getg (n := 64) (r := 286) rfl (by decide +kernel) (by decide) (by decide) (by decide +kernel) ?_
  refine mS_steps (pc' := 374) (ls' := [.ref 279]) (st' := [.int (0 : Int32), .int (0 : Int32), .int (0 : Int32), .int (116 : Int32), .int (111 : Int32), .int (111 : Int32), .int (114 : Int32), .int (3 : Int32), .ref 286]) (mem' := mMk 634) 8 rfl ?_
  refine mS_call (q := (365654 : Int64)) 12 7 [.int (114 : Int32), .int (111 : Int32), .int (111 : Int32), .int (116 : Int32), .int (0 : Int32), .int (0 : Int32), .int (0 : Int32)] [.int (3 : Int32), .ref 286] rfl rfl rfl ⟨_, _, _, rfl, rfl⟩ (Nat.le_of_ble_eq_true rfl) (Nat.le_of_ble_eq_true rfl) (by decide +kernel) (f_X11_letters_snd (114 : Int32) (111 : Int32) (111 : Int32) (116 : Int32) (0 : Int32) (0 : Int32) (0 : Int32) (mMk 634)) ?_
  refine mS_steps (pc' := 377) (ls' := [.ref 279]) (st' := [.long (365654 : Int64), .int (3 : Int32), .ref 286]) (mem' := mMk 634) 0 rfl ?_
  refine mS_steps (pc' := 377) (ls' := [.ref 279]) (st' := [.long (365654 : Int64), .int (3 : Int32), .ref 286]) (mem' := mMk 634) 0 rfl ?_
  refine mS_ljK (n := 5) (c := 3) (w := 365654) rfl (by decide +kernel) (by decide) (by decide) (by decide) (by decide +kernel) (by decide +kernel) ?_
  refine mS_steps (pc' := 379) (ls' := [.ref 279]) (st' := [.ref 279]) (mem' := mMk 635) 1 rfl ?_
  refine mS_getg (n := 64) (r := 286) rfl (by decide +kernel) (by decide) (by decide) (by decide +kernel) ?_
  refine mS_steps (pc' := 394) (ls' := [.ref 279]) (st' := [.int (0 : Int32), .int (0 : Int32), .int (0 : Int32), .int (110 : Int32), .int (119 : Int32), .int (111 : Int32), .int (100 : Int32), .int (4 : Int32), .ref 286]) (mem' := mMk 635) 8 rfl ?_
  refine mS_call (q := (90302 : Int64)) 12 7 [.int (100 : Int32), .int (111 : Int32), .int (119 : Int32), .int (110 : Int32), .int (0 : Int32), .int (0 : Int32), .int (0 : Int32)] [.int (4 : Int32), .ref 286] rfl rfl rfl ⟨_, _, _, rfl, rfl⟩ (Nat.le_of_ble_eq_true rfl) (Nat.le_of_ble_eq_true rfl) (by decide +kernel) (f_X11_letters_snd (100 : Int32) (111 : Int32) (119 : Int32) (110 : Int32) (0 : Int32) (0 : Int32) (0 : Int32) (mMk 635)) ?_
  refine mS_steps (pc' := 397) (ls' := [.ref 279]) (st' := [.long (90302 : Int64), .int (4 : Int32), .ref 286]) (mem' := mMk 635) 0 rfl ?_
  refine mS_steps (pc' := 397) (ls' := [.ref 279]) (st' := [.long (90302 : Int64), .int (4 : Int32), .ref 286]) (mem' := mMk 635) 0 rfl ?_
  refine mS_ljK (n := 5) (c := 4) (w := 90302) rfl (by decide +kernel) (by decide) (by decide) (by decide) (by decide +kernel) (by decide +kernel) ?_
  refine mS_steps (pc' := 401) (ls' := [.ref 279]) (st' := [.int (-2 : Int32), .ref 279]) (mem' := mMk 636) 2 rfl ?_
  refine mS_piK (n := 64) (w := -2) rfl (by decide +kernel) (by decide) (by decide) (by decide +kernel) (by decide +kernel) ?_
  refine mS_steps (pc' := 404) (ls' := [.ref 279]) (st' := []) (mem' := mMk 637) 0 rfl ?_
  exact mS_retv ⟨_, _, _, _, _, rfl⟩ rfl
set_option maxRecDepth 20000 in
set_option maxHeartbeats 4000000 in
theorem d_law {fm : Value} {L : Nat} {xs : Nat → Int32} {A : Option (mX × mY)} (kk : mS fm L xs m_gl pg_L_law 18 [.ref (mBIG + 100), .ref 0, .ref 279, .int (0 : Int32)] [] (mMk 637) A) : mS fm L xs m_gl pg_L_law 0 (m_entry [.ref (mBIG + 100)] 4) [] m_mem0 A := by
  show mS fm L xs m_gl pg_L_law 0 [.ref (mBIG + 100), mU, mU, mU] [] (mMk 0) A
  refine mS_nwK (a := 0) rfl (by decide +kernel) (by decide) (by decide +kernel) ?_
  refine mS_steps (pc' := 4) (ls' := [.ref (mBIG + 100), mU, mU, mU]) (st' := [.ref 0, .ref 0]) (mem' := mMk 1) 1 rfl ?_
  refine mS_call (q := ()) 10 1 [.ref 0] [.ref 0] rfl rfl rfl ⟨_, _, _, rfl, rfl⟩ (Nat.le_of_ble_eq_true rfl) (Nat.le_of_ble_eq_true rfl) rfl d_X10_init ?_
  refine mS_steps (pc' := 8) (ls' := [.ref (mBIG + 100), .ref 0, mU, mU]) (st' := []) (mem' := mMk 559) 1 rfl ?_
  refine mS_nwK (a := 279) rfl (by decide +kernel) (by decide) (by decide +kernel) ?_
  refine mS_steps (pc' := 12) (ls' := [.ref (mBIG + 100), .ref 0, mU, mU]) (st' := [.ref 279, .ref 279]) (mem' := mMk 560) 1 rfl ?_
  refine mS_call (q := ()) 13 1 [.ref 279] [.ref 279] rfl rfl rfl ⟨_, _, _, rfl, rfl⟩ (Nat.le_of_ble_eq_true rfl) (Nat.le_of_ble_eq_true rfl) rfl d_X11_init ?_
  refine mS_steps (pc' := 18) (ls' := [.ref (mBIG + 100), .ref 0, .ref 279, .int (0 : Int32)]) (st' := []) (mem' := mMk 637) 3 rfl ?_
  exact kk
