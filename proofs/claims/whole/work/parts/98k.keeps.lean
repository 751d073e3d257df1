/-! ===== states kept (3): both keep ===== -/
section SS
variable {np rt : Nat} {x x' : mX} {y y' : mY} {σ : Nat → Int32}
theorem hsR_c {a : Nat} {f g : Nat → Int32} (hfg : ∀ c, c < 72 → f c = g c) (h : hsR x a g np rt) : hsR x a f np rt := by
  obtain ⟨⟨w1, w2, w3, w4, w5, w6, w7, w8, w9⟩, r0, r1, r2, r3, r4, r5, r6, r7, r8, r9, rl⟩ := h
  have esm : sm f = sm g := by unfold sm; rw [hfg 4 (by decide)]
  have eE : ∀ l, l < 16 → ∀ a b, sE f l a b ↔ sE g l a b := fun l hl a b => by unfold sE; rw [hfg (8 + l) (by omega), hfg (24 + l) (by omega)]
  refine ⟨⟨w1, ?_, ?_, ?_, ?_, ?_, ?_, ?_, ?_⟩, r0, ?_, ?_, ?_, r4, ?_, ?_, ?_, ?_, ?_, ?_⟩
  · rw [esm, hfg 4 (by decide)]; exact w2
  · rw [esm]; exact w3
  · rw [hfg 0 (by decide)]; exact w4
  · rw [hfg 2 (by decide)]; exact w5
  · rw [hfg 3 (by decide), hfg 2 (by decide), esm]
    exact fun l hl => ⟨(w6 l hl).1, fun a b ha hb he => (w6 l hl).2 a b ha hb ((eE l (by have := (w6 l hl).1; omega) a b).mp he)⟩
  · rw [esm]
    intro l hl
    rw [hfg (8 + l) (by omega), hfg (24 + l) (by omega)]
    exact w7 l hl
  · rw [esm]
    exact fun l k a b hl hk ha hb h1 h2 => w8 l k a b hl hk ha hb ((eE l (by omega) a b).mp h1) ((eE k (by omega) a b).mp h2)
  · rw [esm]
    intro l hl
    rw [hfg (40 + l) (by omega)]
    exact w9 l hl
  · rw [hfg 4 (by decide)]; exact r1
  · rw [hfg 0 (by decide)]; exact r2
  · rw [hfg 1 (by decide)]; exact r3
  · rw [hfg 2 (by decide)]; exact r5
  · rw [hfg 3 (by decide)]; exact r6
  · rw [hfg 5 (by decide)]; exact r7
  · rw [hfg 6 (by decide)]; exact r8
  · rw [hfg 7 (by decide)]; exact r9
  · rw [esm]
    intro l hl
    rw [hfg (8 + l) (by omega), hfg (24 + l) (by omega), hfg (40 + l) (by omega), hfg (56 + l) (by omega)]
    exact rl l hl
def kpX (q c : Nat) : Prop := 19 ≤ q ∧ q ≤ 220
theorem two_keep (h : IV np rt x y) : ∃ x1 y1, f_X2_keep x = some x1 ∧ f_X11_marks y = some y1 ∧ IV np rt x1 y1 ∧ xF kpX x x1 ∧ yF mkW y y1 := by
  obtain ⟨h1, h2, ⟨k, t, e, k40, t40, e40, a0, a1, b0, b1, hist⟩, h4, h5, h6, h7, h8, h9⟩ := h
  obtain ⟨x1, e1, w1, r1, c1, c0⟩ := keep_ok x h1.1 h1.2 t40 k40 a1 a0
  obtain ⟨y1, e2, w2, d0, d1, d2, d3⟩ := marks_ok y k40 e40 b0 b1
  have wx : xF kpX x x1 := xF_mo w1 (fun q c z => by unfold kpX; omega)
  have es : y1.1 289 = y.1 289 := yF_row w2 (fun c => by unfold mkW; omega)
  have rx : ∀ q, ¬ (19 ≤ q ∧ q ≤ 220) → x1.1 q = x.1 q := fun q hq => xF_row wx (fun c => hq)
  have ry : ∀ q, q ≠ 290 → q ≠ 279 → y1.1 q = y.1 q := fun q q1 q2 => yF_row w2 (fun c => by unfold mkW; omega)
  refine ⟨x1, y1, e1, e2, ⟨?_, ?_, ?_, ?_, ?_, ?_, ?_, ?_, ?_⟩, wx, w2⟩
  · rw [es]
    exact hsR_cg (fun q q1 q2 => rx q (by omega)) h1
  · exact iR_mo (w2.1 279 17 (by unfold mkW; omega)) (w2.1 279 18 (by unfold mkW; omega)) h2
  · refine ⟨if k = 40 then 40 else k + 1, (t + 1) % 40, if k = 40 then (e + 1) % 40 else e, by split <;> omega, Nat.mod_lt _ (by decide), by split <;> omega, c0, c1, d0, d1, fun j j1 j2 => ?_⟩
    by_cases cj : j = 1
    · subst cj
      have i1 : ((t + 1) % 40 + 40 - 1) % 40 = t := by omega
      have i2 : ((if k = 40 then (e + 1) % 40 else e) + (if k = 40 then 40 else k + 1) - 1) % 40 = (e + k) % 40 := by split <;> omega
      rw [i1, i2]
      exact hsR_c (g := y.1 289) (fun c hc => d2 c hc) ⟨h1.1, r1⟩
    · have i1 : ((t + 1) % 40 + 40 - j) % 40 = (t + 40 - (j - 1)) % 40 := by
        have : j ≤ 40 := by split at j2 <;> omega
        omega
      have jk : j - 1 ≤ k := by split at j2 <;> omega
      have i2 : ((if k = 40 then (e + 1) % 40 else e) + (if k = 40 then 40 else k + 1) - j) % 40 = (e + k - (j - 1)) % 40 := by
        split
        · rw [if_pos (by assumption)] at j2
          omega
        · rw [if_neg (by assumption)] at j2
          omega
      have jl : j ≤ 40 := by split at j2 <;> omega
      rw [i1, i2]
      have old := hist (j - 1) (by omega) jk
      have n1 : (t + 40 - (j - 1)) % 40 ≠ t := by omega
      have n2 : (e + k - (j - 1)) % 40 ≠ (e + k) % 40 := by omega
      have l1 := Nat.mod_lt (t + 40 - (j - 1)) (show 40 > 0 by decide)
      have l2 := Nat.mod_lt (e + k - (j - 1)) (show 40 > 0 by decide)
      refine hsR_c (g := fun c => y.1 290 (72 * ((e + k - (j - 1)) % 40) + c)) (fun c hc => d3 _ c l2 n2 hc) ?_
      exact hsR_cg (fun q q1 q2 => funext fun c => w1.1 q c (by omega)) old
  · exact iS_mo (wx.1 0 4 (by unfold kpX; omega)) (fun q q1 q2 => rx q (by omega)) (ry 291 (by decide) (by decide)) (ry 292 (by decide) (by decide)) h4
  · exact iT_mo (fun c hc => wx.1 1 c (by unfold kpX; omega)) (rx 7 (by omega)) (w2.1 279 2 (by unfold mkW; omega)) (w2.1 279 16 (by unfold mkW; omega)) (ry 280 (by decide) (by decide)) h5
  · rw [es]
    exact cP_mo (wx.1 0 6 (by unfold kpX; omega)) (fun q q1 q2 => rx q (by omega)) (wx.1 256 0 (by unfold kpX; omega)) (wx.1 256 2 (by unfold kpX; omega)) (rx 257 (by omega)) h6
  · rw [es]
    exact cL_mo (wx.1 0 8 (by unfold kpX; omega)) (fun q q1 q2 => rx q (by omega)) (wx.1 234 2 (by unfold kpX; omega)) (fun q q1 q2 => rx q (by omega)) h7
  · exact kq_mo (w2.1 279 30 (by unfold mkW; omega)) (fun q hq => ry q (by omega) (by omega)) h8
  · unfold yKs
    rw [w2.2]
    exact h9
/-- the state changed, nothing else -/
def sX (q c : Nat) : Prop := (14 ≤ q ∧ q ≤ 18) ∨ (q = 0 ∧ (c = 6 ∨ c = 8))
def sY (q c : Nat) : Prop := q = 289 ∨ (q = 279 ∧ c = 30)
theorem IV_st (h : IV np rt x y) (hx : eqX sX x x') (hy : eqY sY y y') (hK : y'.2 286 = y.2 286) (h1 : hsR x' 14 (y'.1 289) np rt) (h6 : cP x' (y'.1 289)) (h7 : cL x' (y'.1 289)) (h8 : kq y') : IV np rt x' y' := by
  obtain ⟨_, h2, h3, h4, h5, _, _, _, h9⟩ := h
  have rx : ∀ q, (∀ c, ¬ sX q c) → x'.1 q = x.1 q := fun q hq => eqX_row hx hq
  have ry : ∀ q, (∀ c, ¬ sY q c) → y'.1 q = y.1 q := fun q hq => eqY_row hy hq
  refine ⟨h1, ?_, ?_, ?_, ?_, h6, h7, h8, ?_⟩
  · exact iR_mo (hy 279 17 (by unfold sY; omega)) (hy 279 18 (by unfold sY; omega)) h2
  · exact iH_mo (fun q q1 q2 => rx q (fun c => by unfold sX; omega)) (hy 279 26 (by unfold sY; omega)) (hy 279 27 (by unfold sY; omega)) (ry 290 (fun c => by unfold sY; omega)) h3
  · exact iS_mo (hx 0 4 (by unfold sX; omega)) (fun q q1 q2 => rx q (fun c => by unfold sX; omega)) (ry 291 (fun c => by unfold sY; omega)) (ry 292 (fun c => by unfold sY; omega)) h4
  · exact iT_mo (fun c hc => hx 1 c (by unfold sX; omega)) (rx 7 (fun c => by unfold sX; omega)) (hy 279 2 (by unfold sY; omega)) (hy 279 16 (by unfold sY; omega)) (ry 280 (fun c => by unfold sY; omega)) h5
  · unfold yKs
    rw [hK]
    exact h9
end SS
