/-! ===== calls: piece, block, cuts, bridges ===== -/
section SE
variable {np rt w : Nat} {x x' : mX} {y y' : mY} {p1 p2 : Int32}
/-- the same answer, and the invariant -/
def sam (o : Option (Int32 × mX)) (o' : Option (Int32 × mY)) : Prop := ∃ r x2 y2, o = some (r, x2) ∧ o' = some (r, y2) ∧ Inv x2 y2
theorem IV_yF {W : Nat → Nat → Prop} (h : IV np rt x y) (k : yF W y y') (hm : ∀ q c, W q c → scY q c) : IV np rt x y' := IV_y h (eqY_F k hm) (by rw [k.2])
theorem IV_yk {W : Nat → Nat → Prop} (h : IV np rt x y) (k : yF W y y') (hm : ∀ q c, W q c → skY q c) (hk : kq y') : IV np rt x y' := IV_k h (eqY_F k hm) hk (by rw [k.2])
theorem IV_xF {W : Nat → Nat → Prop} (h : IV np rt x y) (k : xF W x x') (hm : ∀ q c, W q c → scX q c) : IV np rt x' y := IV_x h (eqX_F k hm)
theorem which_c (p : Int32) : (∃ w, w < 2 ∧ p = nI w ∧ f_X10_isNet p = 1 ∧ f_X10_isColour p = 1 ∧ f_X11_isWhich p = some 1 ∧ f_X11_in p 0 1 = 1) ∨ ((∀ w, w < 2 → p ≠ nI w) ∧ f_X10_isNet p = 0 ∧ f_X10_isColour p = 0 ∧ f_X11_isWhich p = some 0 ∧ f_X11_in p 0 1 = 0) := by
  unfold f_X11_isWhich f_X10_isNet f_X10_isColour
  rcases in_cases p (n := 2) (by decide) with ⟨k, k1, k2, k3⟩ | ⟨k1, k3⟩
  · left
    rw [show nI 2 - 1 = (1 : Int32) by decide] at k3
    have t : k = 0 ∨ k = 1 := by omega
    refine ⟨k, k1, k2, ?_, ?_, by rw [k3, if_pos (by decide)], k3⟩
    · rcases t with rfl | rfl
      · rw [k2, if_pos (by decide)]
      · rw [k2, if_neg (by decide), if_pos (by decide)]
    · rcases t with rfl | rfl
      · rw [k2, if_pos (by decide)]
      · rw [k2, if_neg (by decide), if_pos (by decide)]
  · right
    rw [show nI 2 - 1 = (1 : Int32) by decide] at k3
    have h0 : ¬ p = 0 := fun z => k1 0 (by decide) (z.trans nI_0.symm)
    have h1 : ¬ p = 1 := fun z => k1 1 (by decide) (z.trans (show (1 : Int32) = nI 1 by decide))
    exact ⟨k1, by rw [if_neg h0, if_neg h1], by rw [if_neg h0, if_neg h1], by rw [k3, if_pos (by decide)], k3⟩
theorem nt_un {σ : Nat → Int32} {L L' : Int32} (h : nt_L σ w L) (h' : nt_L σ w L') : L = L' := by
  rcases h with ⟨h1, h2⟩ | ⟨h1, h2⟩
  · rcases h' with ⟨k1, k2⟩ | ⟨k1, k2⟩
    · exact sL_un h2 k2
    · omega
  · rcases h' with ⟨k1, k2⟩ | ⟨k1, k2⟩
    · omega
    · rw [h2, k2]
/-- a question about a net, of the class -/
theorem netCall (h : IV np rt x y) (hw : w < 2) (F : Nat → mX → Option Int32) {Q : Int32 → Int32 → Prop} (hF : ∀ a L x1, n_adr a → nt_L (y.1 289) w L → n_ok x1.1 a (y.1 289) (nt_P (y.1 289) w) L → ∃ r, F a x1 = some r ∧ Q L r) : ∃ L r x1, ((f_X10_netOf (nI w) x).bind fun q1 => (if q1.1 = 222 then ((F 222 q1.2).bind fun q2 => (some (q2, q1.2))) else (if q1.1 = 228 then ((F 228 q1.2).bind fun q3 => (some (q3, q1.2))) else none))) = some (r, x1) ∧ nt_L (y.1 289) w L ∧ Q L r ∧ IV np rt x1 y := by
  unfold f_X10_netOf
  by_cases c : w = 0
  · subst c
    obtain ⟨x1, e1, i1, z1⟩ := presentNet_ok h
    obtain ⟨V, v1, v2, _⟩ := i1.2.2.2.2.2.1 z1
    obtain ⟨r, f1, f2⟩ := hF 222 V x1 (Or.inl rfl) (Or.inl ⟨rfl, v1⟩) v2
    refine ⟨V, r, x1, ?_, Or.inl ⟨rfl, v1⟩, f2, i1⟩
    rw [if_pos nI_0, e1, Option.bind_some]
    dsimp only
    rw [if_pos rfl, Option.bind_some]
    dsimp only
    rw [if_pos rfl, f1, Option.bind_some]
  · have e : w = 1 := by omega
    subst e
    obtain ⟨x1, e1, i1, z1⟩ := learntNet_ok h
    obtain ⟨v2, _⟩ := i1.2.2.2.2.2.2.1 z1
    obtain ⟨r, f1, f2⟩ := hF 228 _ x1 (Or.inr (Or.inl rfl)) (Or.inr ⟨rfl, rfl⟩) v2
    refine ⟨_, r, x1, ?_, Or.inr ⟨rfl, rfl⟩, f2, i1⟩
    rw [if_neg (by decide), e1, Option.bind_some]
    dsimp only
    rw [if_pos rfl, Option.bind_some]
    dsimp only
    rw [if_neg (by decide), if_pos rfl, f1, Option.bind_some]
theorem bt_same {a b : Int32} {P : Nat → Prop} (h1 : ∀ i, bt a i = true ↔ P i) (h2 : ∀ i, bt b i = true ↔ P i) : a = b := b_eq_iff fun i => (h1 i).trans (h2 i).symm
theorem st_piece (h : IV np rt x y) : sam (f_X10_piece p1 p2 x) (f_X11_piece p1 p2 y) := by
  unfold f_X10_piece f_X11_piece
  rcases which_c p1 with ⟨w, hw, rfl, k1, _, k2, _⟩ | ⟨_, k1, _, k2, _⟩
  · rw [k1, if_neg (by decide), k2, Option.bind_some, if_neg (by decide)]
    obtain ⟨L, r, x1, e1, l1, q1, i1⟩ := netCall h hw (fun a x1 => f_X3_pieceAt a p2 x1) (Q := fun L r => pc_A (sA (y.1 289) L) (bS (nt_P (y.1 289) w)) p2 r) (fun a L x1 _ hl hn => pieceAt_ok x1 hn.2.2.2.1.1 p2)
    rw [e1]
    obtain ⟨L', y1, l2, e2, w2, n2⟩ := laysNet_ok hw y h.1.1
    have hN := nt_N h.1.1 l2
    rw [nt_un l1 l2] at q1
    by_cases c : (-1 : Int32) ≤ p2
    · rw [if_pos c, e2, Option.bind_some]
      obtain ⟨r2, e3, q2, z2⟩ := piece_L (w := w) (by omega) hN.2.2.2 y1 hN.2.1.1 n2 p2 c
      dsimp only
      rw [e3]
      exact ⟨r, x1, r2.2, rfl, by rw [pc_A_un q1 q2], np, rt, by rw [z2]; exact IV_yF i1 (yF_R w2) (fun q c z => by unfold scY; omega)⟩
    · rw [if_neg c]
      refine ⟨r, x1, y, rfl, ?_, np, rt, i1⟩
      rcases q1 with ⟨m, m1, m2, m3, m4⟩ | ⟨m1, m2⟩
      · exact absurd (Int32.le_of_lt (m3 ▸ m1_lt (by have := g_n_bound (P := g_L (sA (y.1 289) L') (bS (nt_P (y.1 289) w))) m; omega))) c
      · rw [m2, if_neg (fun z => c (by rw [z]; exact Int32.le_refl _))]
  · rw [k1, if_pos rfl, k2, Option.bind_some, if_pos rfl]
    exact ⟨_, x, y, rfl, rfl, np, rt, h⟩
theorem st_cuts (h : IV np rt x y) : sam (f_X10_cuts p1 x) (f_X11_cuts p1 y) := by
  unfold f_X10_cuts f_X11_cuts
  rcases which_c p1 with ⟨w, hw, rfl, k1, _, k2, _⟩ | ⟨_, k1, _, k2, _⟩
  · rw [k1, if_neg (by decide), k2, Option.bind_some, if_neg (by decide)]
    obtain ⟨L, r, x1, e1, l1, q1, i1⟩ := netCall h hw (fun a x1 => f_X3_cutPosts a x1) (Q := fun L r => ∀ i, bt r i = true ↔ g_K (sA (y.1 289) L) (bS (nt_P (y.1 289) w)) i) (fun a L x1 ha hl hn => cutPosts_ok ha x1 (nt_N h.1.1 hl).2.1 hn.2.2.1 hn.2.2.2.1)
    rw [e1]
    obtain ⟨L', y1, l2, e2, w2, n2⟩ := laysNet_ok hw y h.1.1
    have hN := nt_N h.1.1 l2
    rw [nt_un l1 l2] at q1
    rw [e2, Option.bind_some]
    dsimp only
    rw [piecesOf_ok (w := w) (by omega) hN.2.2.2 y1 hN.2.1.1 n2, Option.bind_some]
    obtain ⟨r2, e3, q2, z2⟩ := cuts_L (w := w) (by omega) hN.2.2.2 y1 hN.2.1 n2
    rw [e3]
    exact ⟨r, x1, r2.2, rfl, by rw [bt_same q1 q2], np, rt, by rw [z2]; exact IV_yF i1 (yF_R w2) (fun q c z => by unfold scY; omega)⟩
  · rw [k1, if_pos rfl, k2, Option.bind_some, if_pos rfl]
    exact ⟨_, x, y, rfl, rfl, np, rt, h⟩
theorem st_bridges (h : IV np rt x y) : sam (f_X10_bridges p1 x) (f_X11_bridges p1 y) := by
  unfold f_X10_bridges f_X11_bridges
  rcases which_c p1 with ⟨w, hw, rfl, k1, _, k2, _⟩ | ⟨_, k1, _, k2, _⟩
  · rw [k1, if_neg (by decide), k2, Option.bind_some, if_neg (by decide)]
    obtain ⟨L, r, x1, e1, l1, q1, i1⟩ := netCall h hw (fun a x1 => f_X3_bridgeLinks a x1) (Q := fun L r => ∀ i, bt r i = true ↔ br_l (y.1 289) L (nt_P (y.1 289) w) i) (fun a L x1 ha hl hn => bridgeLinks_ok x1 (nt_N h.1.1 hl) hn)
    rw [e1]
    obtain ⟨L', y1, l2, e2, w2, n2⟩ := laysNet_ok hw y h.1.1
    have hN := nt_N h.1.1 l2
    rw [nt_un l1 l2] at q1
    have es : y1.1 289 = y.1 289 := w2.1 289 (by decide)
    rw [e2, Option.bind_some, m_jn]
    dsimp only
    have fin : ∃ r2, ((f_X11_piecesOf (nI w) (nt_P (y.1 289) w) y1).bind fun q5 => (f_X11_bridges_L47 (nt_P (y.1 289) w) L' q5 mF (0 : Int32) (0 : Int32) y1)) = some (r, r2) ∧ Inv x1 r2 := by
      rw [piecesOf_ok (w := w) (by omega) hN.2.2.2 y1 hN.2.1.1 n2, Option.bind_some]
      obtain ⟨r2, e3, q2, z2⟩ := bridges_L y1 es hN
      rw [e3]
      exact ⟨r2.2, by rw [bt_same q1 q2], np, rt, IV_yF (IV_yF i1 (yF_R w2) (fun q c z => by unfold scY; omega)) (yF_R z2) (fun q c z => by unfold scY; omega)⟩
    obtain ⟨r2, f1, f2⟩ := fin
    refine ⟨r, x1, r2, rfl, ?_, f2⟩
    rcases l2 with ⟨rfl, l2⟩ | ⟨rfl, l2⟩
    · rw [if_pos nI_0]
      obtain ⟨V, v1, v2⟩ := netLinks_ok y1 (by rw [es]; exact h.1.1)
      rw [es] at v2
      rw [v1, Option.bind_some, sL_un v2 l2]
      exact f1
    · rw [if_neg (by decide), es, ← l2]
      exact f1
  · rw [k1, if_pos rfl, k2, Option.bind_some, if_pos rfl]
    exact ⟨_, x, y, rfl, rfl, np, rt, h⟩
theorem st_block (h : IV np rt x y) : sam (f_X10_block p1 p2 x) (f_X11_block p1 p2 y) := by
  unfold f_X10_block f_X11_block
  rcases which_c p1 with ⟨w, hw, rfl, k1, _, k2, _⟩ | ⟨_, k1, _, k2, _⟩
  · rw [k1, if_neg (by decide), k2, Option.bind_some, if_neg (by decide)]
    obtain ⟨L, r, x1, e1, l1, q1, i1⟩ := netCall h hw (fun a x1 => f_X3_blockAt a p2 x1) (Q := fun L r => bk_A (sA (y.1 289) L) (bS (nt_P (y.1 289) w)) p2 r) (fun a L x1 ha hl hn => blockAt_ok x1 (nt_N h.1.1 hl).2.1 hn.2.2.2.2.1 p2)
    rw [e1]
    obtain ⟨L', y1, l2, e2, w2, n2⟩ := laysNet_ok hw y h.1.1
    have hN := nt_N h.1.1 l2
    rw [nt_un l1 l2] at q1
    rw [e2, Option.bind_some]
    dsimp only
    obtain ⟨y2, e3, w3, m3, b3⟩ := laysBlocks_ok (w := w) (by omega) hN.2.2.2 y1 hN.2.1 n2
    rw [e3, Option.bind_some, m3]
    have i2 : IV np rt x1 y2 := IV_yF (IV_yF i1 (yF_R w2) (fun q c z => by unfold scY; omega)) w3 (fun q c z => by unfold lB_W at z; unfold scY; omega)
    have few := bk_few hN.2.1
    have ans : ∃ r2, (if p2 = (-1 : Int32) then (some (nI (g_n (bk_B (sA (y.1 289) L') (bS (nt_P (y.1 289) w))) 256), y2)) else (if (f_X11_in p2 (0 : Int32) (nI (g_n (bk_B (sA (y.1 289) L') (bS (nt_P (y.1 289) w))) 256) - (1 : Int32))) = 0 then (some ((-1 : Int32), y2)) else (if m_in p2 28 = true then (some ((y2.1 295 p2.toNatClampNeg), y2)) else none))) = some (r2, y2) ∧ bk_A (sA (y.1 289) L') (bS (nt_P (y.1 289) w)) p2 r2 := by
      by_cases c : p2 = -1
      · rw [if_pos c]
        refine ⟨_, rfl, Or.inr ⟨fun n hn z => ?_, by rw [if_pos c]⟩⟩
        rw [c] at z
        have lt := g_n_lt2 (P := bk_B (sA (y.1 289) L') (bS (nt_P (y.1 289) w))) hn hn.1
        exact nI_m1 (by omega) z.symm
      · rw [if_neg c]
        rcases in_cases p2 (n := g_n (bk_B (sA (y.1 289) L') (bS (nt_P (y.1 289) w))) 256) (by omega) with ⟨k, k1, rfl, k3⟩ | ⟨k1, k3⟩
        · obtain ⟨n, n1, n2, n3⟩ := g_n_sel k1
          rw [k3, if_neg (by decide), if_pos (in_ok (by omega) (by decide)), cl (by omega), ← n3, b3 n n2]
          exact ⟨_, rfl, Or.inl ⟨n, n2, rfl, rfl⟩⟩
        · rw [k3, if_pos rfl]
          refine ⟨_, rfl, Or.inr ⟨fun n hn z => k1 _ (g_n_lt2 (P := bk_B (sA (y.1 289) L') (bS (nt_P (y.1 289) w))) hn hn.1) z, by rw [if_neg c]⟩⟩
    obtain ⟨r2, f1, f2⟩ := ans
    rw [f1]
    exact ⟨r, x1, y2, rfl, by rw [bk_A_un q1 f2], np, rt, i2⟩
  · rw [k1, if_pos rfl, k2, Option.bind_some, if_pos rfl]
    exact ⟨_, x, y, rfl, rfl, np, rt, h⟩
end SE
