/-! ===== the invariant of the two ===== -/
section SC
variable {np rt : Nat} {x x' : mX} {y y' : mY} {σ σ' : Nat → Int32}
def yKs (y : mY) : Prop := y.2 286 0 = 326396 ∧ y.2 286 1 = 243146 ∧ y.2 286 2 = 11103 ∧ y.2 286 3 = 365654 ∧ y.2 286 4 = 90302
/-- a kept state -/
def hsR (x : mX) (a : Nat) (σ : Nat → Int32) (np rt : Nat) : Prop := sW σ np ∧ sR x.1 a σ np rt
/-- states to go back to -/
def iH (np rt : Nat) (x : mX) (y : mY) : Prop := ∃ k t e, k ≤ 40 ∧ t < 40 ∧ e < 40 ∧ x.1 19 0 = nI k ∧ x.1 19 1 = nI t ∧ y.1 279 27 = nI k ∧ y.1 279 26 = nI e ∧ ∀ j, 1 ≤ j → j ≤ k → hsR x (21 + 5 * ((t + 40 - j) % 40)) (fun c => y.1 290 (72 * ((e + k - j) % 40) + c)) np rt
/-- states held -/
def iS (np rt : Nat) (x : mX) (y : mY) : Prop := (∀ s, bt (x.1 0 4) s = true → s < 3) ∧ ∀ s, s < 3 → ((bt (x.1 0 4) s = true ∧ y.1 292 s = 1 ∧ hsR x (264 + 5 * s) (fun c => y.1 291 (72 * s + c)) np rt) ∨ (¬ bt (x.1 0 4) s = true ∧ y.1 292 s = 0))
/-- the tape -/
def iT (x : mX) (y : mY) : Prop := ∃ b, b ≤ 2000 ∧ x.1 1 0 = nI b ∧ y.1 279 2 = nI b ∧ (∀ i, i < b → x.1 7 i = y.1 280 i) ∧ x.1 1 1 = y.1 279 16
def iR (np rt : Nat) (y : mY) : Prop := y.1 279 17 = nI np ∧ ((np = 0 ∧ y.1 279 18 = -2) ∨ (rt < np ∧ y.1 279 18 = nI rt))
/-- the net kept of the present -/
def cP (x : mX) (σ : Nat → Int32) : Prop := x.1 0 6 = 0 → ∃ V, sL σ V ∧ n_ok x.1 222 σ (σ 0) V ∧ (x.1 256 2 = 0 ∨ kg x (sA σ V) (σ 0))
/-- the net kept of what was learnt, and its tables -/
def cL (x : mX) (σ : Nat → Int32) : Prop := x.1 0 8 = 0 → n_ok x.1 228 σ (σ 2) (σ 3) ∧ t_ok x.1 σ (σ 2) (σ 3)
/-- the invariant -/
def IV (np rt : Nat) (x : mX) (y : mY) : Prop := hsR x 14 (y.1 289) np rt ∧ iR np rt y ∧ iH np rt x y ∧ iS np rt x y ∧ iT x y ∧ cP x (y.1 289) ∧ cL x (y.1 289) ∧ kq y ∧ yKs y
def Inv (x : mX) (y : mY) : Prop := ∃ np rt, IV np rt x y
/-- cells that it does not speak of -/
def scX (q c : Nat) : Prop := (2 ≤ q ∧ q ≤ 6) ∨ (8 ≤ q ∧ q ≤ 13) ∨ (q = 234 ∧ c ≠ 2) ∨ q = 235 ∨ (240 ≤ q ∧ q ≤ 255) ∨ (258 ≤ q ∧ q ≤ 263) ∨ (q = 1 ∧ 2 ≤ c)
def scY (q c : Nat) : Prop := (281 ≤ q ∧ q ≤ 288) ∨ (293 ≤ q ∧ q ≤ 295) ∨ 302 ≤ q ∨ (q = 279 ∧ c ≠ 2 ∧ c ≠ 16 ∧ c ≠ 17 ∧ c ≠ 18 ∧ c ≠ 26 ∧ c ≠ 27 ∧ c ≠ 30)
/-- and those of the reference's tables -/
def skY (q c : Nat) : Prop := scY q c ∨ (296 ≤ q ∧ q ≤ 301) ∨ (q = 279 ∧ c = 30)
def eqX (W : Nat → Nat → Prop) (x x' : mX) : Prop := ∀ q c, ¬ W q c → x'.1 q c = x.1 q c
def eqY (W : Nat → Nat → Prop) (y y' : mY) : Prop := ∀ q c, ¬ W q c → y'.1 q c = y.1 q c
theorem eqX_row {W : Nat → Nat → Prop} {q : Nat} (h : eqX W x x') (hq : ∀ c, ¬ W q c) : x'.1 q = x.1 q := funext fun c => h q c (hq c)
theorem eqY_row {W : Nat → Nat → Prop} {q : Nat} (h : eqY W y y') (hq : ∀ c, ¬ W q c) : y'.1 q = y.1 q := funext fun c => h q c (hq c)
theorem sR_cg {a : Nat} (h : ∀ q, a ≤ q → q ≤ a + 4 → x'.1 q = x.1 q) (k : sR x.1 a σ np rt) : sR x'.1 a σ np rt := by
  unfold sR
  rw [h a (by omega) (by omega), h (a + 1) (by omega) (by omega), h (a + 2) (by omega) (by omega), h (a + 3) (by omega) (by omega), h (a + 4) (by omega) (by omega)]
  exact k
theorem hsR_cg {a : Nat} (h : ∀ q, a ≤ q → q ≤ a + 4 → x'.1 q = x.1 q) (k : hsR x a σ np rt) : hsR x' a σ np rt := ⟨k.1, sR_cg h k.2⟩
theorem iH_mo (hx : ∀ q, 19 ≤ q → q ≤ 220 → x'.1 q = x.1 q) (h26 : y'.1 279 26 = y.1 279 26) (h27 : y'.1 279 27 = y.1 279 27) (h290 : y'.1 290 = y.1 290) (h : iH np rt x y) : iH np rt x' y' := by
  obtain ⟨k, t, e, h1, h2, h3, h4, h5, h6, h7, h8⟩ := h
  refine ⟨k, t, e, h1, h2, h3, by rw [hx 19 (by decide) (by decide)]; exact h4, by rw [hx 19 (by decide) (by decide)]; exact h5, by rw [h27]; exact h6, by rw [h26]; exact h7, fun j j1 j2 => ?_⟩
  rw [h290]
  have m40 := Nat.mod_lt (t + 40 - j) (show 40 > 0 by decide)
  exact hsR_cg (fun q q1 q2 => hx q (by omega) (by omega)) (h8 j j1 j2)
theorem iS_mo (h4 : x'.1 0 4 = x.1 0 4) (hx : ∀ q, 264 ≤ q → q ≤ 278 → x'.1 q = x.1 q) (h291 : y'.1 291 = y.1 291) (h292 : y'.1 292 = y.1 292) (h : iS np rt x y) : iS np rt x' y' := by
  unfold iS
  rw [h4, h291, h292]
  refine ⟨h.1, fun s hs => (h.2 s hs).imp (fun k => ⟨k.1, k.2.1, hsR_cg (fun q q1 q2 => hx q (by omega) (by omega)) k.2.2⟩) id⟩
theorem iT_mo (h1 : ∀ c, c < 2 → x'.1 1 c = x.1 1 c) (h7 : x'.1 7 = x.1 7) (e2 : y'.1 279 2 = y.1 279 2) (e16 : y'.1 279 16 = y.1 279 16) (e280 : y'.1 280 = y.1 280) (h : iT x y) : iT x' y' := by
  unfold iT
  rw [h1 0 (by decide), h1 1 (by decide), h7, e2, e16, e280]
  exact h
theorem iR_mo (h17 : y'.1 279 17 = y.1 279 17) (h18 : y'.1 279 18 = y.1 279 18) (h : iR np rt y) : iR np rt y' := by
  unfold iR
  rw [h17, h18]
  exact h
theorem kg_cg {A : Nat → Nat → Prop} {P : Int32} (h0 : x'.1 256 0 = x.1 256 0) (h2 : x'.1 256 2 = x.1 256 2) (h7 : x'.1 257 = x.1 257) (h : kg x A P) : kg x' A P := by
  unfold kg
  rw [h0, h2, h7]
  exact h
theorem cP_mo (h06 : x'.1 0 6 = x.1 0 6) (hn : ∀ q, 222 ≤ q → q ≤ 227 → x'.1 q = x.1 q) (h0 : x'.1 256 0 = x.1 256 0) (h2 : x'.1 256 2 = x.1 256 2) (h7 : x'.1 257 = x.1 257) (h : cP x σ) : cP x' σ := by
  intro k
  rw [h06] at k
  obtain ⟨V, v1, v2, v3⟩ := h k
  exact ⟨V, v1, n_ok_cg (fun q q1 q2 => hn q q1 (by omega)) v2, v3.imp (fun e => by rw [h2]; exact e) (fun e => kg_cg h0 h2 h7 e)⟩
theorem ct_e_rows (hn : ∀ q, 236 ≤ q → q ≤ 239 → x'.1 q = x.1 q) (r v : Nat) : ct_e x.1 x'.1 r v := by
  unfold ct_e
  rw [hn 236 (by decide) (by decide), hn 237 (by decide) (by decide), hn 238 (by decide) (by decide), hn 239 (by decide) (by decide)]
  exact ⟨rfl, rfl, rfl, rfl, rfl, rfl⟩
theorem ct_r_rows {P L : Int32} (hn : ∀ q, 236 ≤ q → q ≤ 239 → x'.1 q = x.1 q) {r : Nat} (h : ct_r x.1 σ P L r) : ct_r x'.1 σ P L r := fun v hv => (h v hv).imp (fun k => ct_e_g (ct_e_rows hn r v) k) (fun k => ⟨k.1, ct_e_0 (ct_e_rows hn r v) k.2⟩)
theorem cL_mo (h08 : x'.1 0 8 = x.1 0 8) (hn : ∀ q, 228 ≤ q → q ≤ 233 → x'.1 q = x.1 q) (h2 : x'.1 234 2 = x.1 234 2) (ht : ∀ q, 236 ≤ q → q ≤ 239 → x'.1 q = x.1 q) (h : cL x σ) : cL x' σ := by
  intro k
  rw [h08] at k
  obtain ⟨v1, v2⟩ := h k
  refine ⟨n_ok_cg (fun q q1 q2 => hn q q1 (by omega)) v1, fun q hq hb => ?_⟩
  rw [h2] at hb
  exact ct_r_rows ht (v2 q hq hb)
theorem k_ok_cg {Y Y' : Nat → Nat → Int32} (h : ∀ q, q = 289 ∨ (296 ≤ q ∧ q ≤ 301) → Y' q = Y q) (k : k_ok Y) : k_ok Y' := by
  unfold k_ok ky_e ky_g
  rw [h 289 (Or.inl rfl), h 296 (by omega), h 297 (by omega), h 298 (by omega), h 299 (by omega), h 300 (by omega), h 301 (by omega)]
  exact k
theorem kq_mo (h30 : y'.1 279 30 = y.1 279 30) (h : ∀ q, q = 289 ∨ (296 ≤ q ∧ q ≤ 301) → y'.1 q = y.1 q) (k : kq y) : kq y' := fun z => k_ok_cg h (k (by rw [← h30]; exact z))
/-- other cells don't matter -/
theorem IV_mo (h : IV np rt x y) (hx : eqX scX x x') (hy : eqY skY y y') (hk : kq y') (hK : y'.2 286 = y.2 286) : IV np rt x' y' := by
  obtain ⟨h1, h2, h3, h4, h5, h6, h7, h8, h9⟩ := h
  have rx : ∀ q, (∀ c, ¬ scX q c) → x'.1 q = x.1 q := fun q hq => eqX_row hx hq
  have ry : ∀ q, (∀ c, ¬ skY q c) → y'.1 q = y.1 q := fun q hq => eqY_row hy hq
  have e289 : y'.1 289 = y.1 289 := ry 289 (fun c => by unfold skY scY; omega)
  refine ⟨?_, ?_, ?_, ?_, ?_, ?_, ?_, hk, ?_⟩
  · rw [e289]
    exact hsR_cg (fun q q1 q2 => rx q (fun c => by unfold scX; omega)) h1
  · exact iR_mo (hy 279 17 (by unfold skY scY; omega)) (hy 279 18 (by unfold skY scY; omega)) h2
  · exact iH_mo (fun q q1 q2 => rx q (fun c => by unfold scX; omega)) (hy 279 26 (by unfold skY scY; omega)) (hy 279 27 (by unfold skY scY; omega)) (ry 290 (fun c => by unfold skY scY; omega)) h3
  · exact iS_mo (hx 0 4 (by unfold scX; omega)) (fun q q1 q2 => rx q (fun c => by unfold scX; omega)) (ry 291 (fun c => by unfold skY scY; omega)) (ry 292 (fun c => by unfold skY scY; omega)) h4
  · exact iT_mo (fun c hc => hx 1 c (by unfold scX; omega)) (rx 7 (fun c => by unfold scX; omega)) (hy 279 2 (by unfold skY scY; omega)) (hy 279 16 (by unfold skY scY; omega)) (ry 280 (fun c => by unfold skY scY; omega)) h5
  · rw [e289]
    exact cP_mo (hx 0 6 (by unfold scX; omega)) (fun q q1 q2 => rx q (fun c => by unfold scX; omega)) (hx 256 0 (by unfold scX; omega)) (hx 256 2 (by unfold scX; omega)) (rx 257 (fun c => by unfold scX; omega)) h6
  · rw [e289]
    exact cL_mo (hx 0 8 (by unfold scX; omega)) (fun q q1 q2 => rx q (fun c => by unfold scX; omega)) (hx 234 2 (by unfold scX; omega)) (fun q q1 q2 => rx q (fun c => by unfold scX; omega)) h7
  · unfold yKs
    rw [hK]
    exact h9
theorem IV_x (h : IV np rt x y) (hx : eqX scX x x') : IV np rt x' y := IV_mo h hx (fun _ _ _ => rfl) h.2.2.2.2.2.2.2.1 rfl
theorem IV_y (h : IV np rt x y) (hy : eqY scY y y') (hK : y'.2 286 = y.2 286) : IV np rt x y' := IV_mo h (fun _ _ _ => rfl) (fun q c hq => hy q c (fun z => hq (Or.inl z))) (kq_mo (hy 279 30 (by unfold scY; omega)) (fun q hq => eqY_row hy (fun c => by unfold scY; omega)) h.2.2.2.2.2.2.2.1) hK
theorem IV_k (h : IV np rt x y) (hy : eqY skY y y') (hk : kq y') (hK : y'.2 286 = y.2 286) : IV np rt x y' := IV_mo h (fun _ _ _ => rfl) hy hk hK
theorem eqX_F {W : Nat → Nat → Prop} (h : xF W x x') (hm : ∀ q c, W q c → scX q c) : eqX scX x x' := fun q c hq => h.1 q c (fun z => hq (hm q c z))
theorem eqY_F {W U : Nat → Nat → Prop} (h : yF W y y') (hm : ∀ q c, W q c → U q c) : eqY U y y' := fun q c hq => h.1 q c (fun z => hq (hm q c z))
end SC
